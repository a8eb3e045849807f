theorem dX3_beliefAtFirst_0 : decode cX3_beliefAtFirst 0 = .ok (.aload_n 0, 1) := by decide +kernel
theorem dX3_beliefAtFirst_1 : decode cX3_beliefAtFirst 1 = .ok (.getfield 20, 3) := by decide +kernel
theorem dX3_beliefAtFirst_4 : decode cX3_beliefAtFirst 4 = .ok (.invokevirtual 126, 3) := by decide +kernel
theorem dX3_beliefAtFirst_7 : decode cX3_beliefAtFirst 7 = .ok (.aload_n 0, 1) := by decide +kernel
theorem dX3_beliefAtFirst_8 : decode cX3_beliefAtFirst 8 = .ok (.getfield 20, 3) := by decide +kernel
theorem dX3_beliefAtFirst_11 : decode cX3_beliefAtFirst 11 = .ok (.iconst 1, 1) := by decide +kernel
theorem dX3_beliefAtFirst_12 : decode cX3_beliefAtFirst 12 = .ok (.bipush 100, 2) := by decide +kernel
theorem dX3_beliefAtFirst_14 : decode cX3_beliefAtFirst 14 = .ok (.invokevirtual 74, 3) := by decide +kernel
theorem dX3_beliefAtFirst_17 : decode cX3_beliefAtFirst 17 = .ok (.ifCond .ne 5, 3) := by decide +kernel
theorem dX3_beliefAtFirst_20 : decode cX3_beliefAtFirst 20 = .ok (.iconst 0, 1) := by decide +kernel
theorem dX3_beliefAtFirst_21 : decode cX3_beliefAtFirst 21 = .ok (.ireturn, 1) := by decide +kernel
theorem dX3_beliefAtFirst_22 : decode cX3_beliefAtFirst 22 = .ok (.aload_n 0, 1) := by decide +kernel
theorem dX3_beliefAtFirst_23 : decode cX3_beliefAtFirst 23 = .ok (.getfield 24, 3) := by decide +kernel
theorem dX3_beliefAtFirst_26 : decode cX3_beliefAtFirst 26 = .ok (.aload_n 0, 1) := by decide +kernel
theorem dX3_beliefAtFirst_27 : decode cX3_beliefAtFirst 27 = .ok (.getfield 20, 3) := by decide +kernel
theorem dX3_beliefAtFirst_30 : decode cX3_beliefAtFirst 30 = .ok (.getfield 77, 3) := by decide +kernel
theorem dX3_beliefAtFirst_33 : decode cX3_beliefAtFirst 33 = .ok (.putfield 164, 3) := by decide +kernel
theorem dX3_beliefAtFirst_36 : decode cX3_beliefAtFirst 36 = .ok (.iconst 1, 1) := by decide +kernel
theorem dX3_beliefAtFirst_37 : decode cX3_beliefAtFirst 37 = .ok (.ireturn, 1) := by decide +kernel
def f_X3_beliefAtFirst (S : Hp) : Option (Int32 × Hp) :=
  ob (f_X10_next S) (fun S1 => ob2 (f_X10_takeNumber (1 : Int32) (100 : Int32) S1) (fun r2 S2 => if r2 = 0 then some ((0 : Int32), S2) else ldP yH S2 20 2 2 (fun p3 => le1 (ho_sI S2 p3 3 (S2.1 10 8)) (fun S4 => some ((1 : Int32), S4)))))
set_option maxHeartbeats 4000000 in
set_option maxRecDepth 100000 in
theorem c_X3_beliefAtFirst (l : Launch) (E : Ev) (S : Hp) (r : (Int32 × Hp)) (h : f_X3_beliefAtFirst S = some r) : ho_M l yH E yX3_beliefAtFirst cX3_beliefAtFirst 1 (some .boolean) 3 [.ref (E.2.1 20)] S (some (.int r.1), r.2) := by
  refine ho_in (by decide) (Nat.le_of_ble_eq_true rfl) ?_
  intro p e s m args below meth c C hR ls hl
  have C : ho_I p s m args meth c RX3 cX3_beliefAtFirst 1 (some .boolean) := C
  have hl : lv_has ls 1 [(0, .ref (E.2.1 20))] := hl
  unfold f_X3_beliefAtFirst at h
  refine lv_aload_n C.1 C.2.1 dX3_beliefAtFirst_0 rfl (lv_at hl 0 rfl) ?_
  refine ho_getR (a' := 10) C cf3 fH_RX3_20 hR aH_20 rfl dX3_beliefAtFirst_1 ?_
  obtain ⟨S1, h1, h⟩ := ob_ok h
  refine hr_Vv (S' := S1) (As := []) (rest := []) C cf10 (c_X10_next l E _ _ h1) yv_X10_next lk_RX3_126 rfl aH_10 rfl rfl hl.1 (Nat.le_of_ble_eq_true rfl) (by decide) (by decide) hR (ho_A hR) dX3_beliefAtFirst_4 (fun H locs hR => ?_)
  refine lv_aload_n C.1 C.2.1 dX3_beliefAtFirst_7 rfl (lv_at hl 0 rfl) ?_
  refine ho_getR (a' := 10) C cf3 fH_RX3_20 hR aH_20 rfl dX3_beliefAtFirst_8 ?_
  refine lv_iconst (v := (1 : Int32)) C.1 C.2.1 dX3_beliefAtFirst_11 (by decide) ?_
  refine lv_bipush (v := (100 : Int32)) C.1 C.2.1 dX3_beliefAtFirst_12 (by decide) ?_
  obtain ⟨r2, S2, h2, h⟩ := ob2_ok h
  refine hr_Vi (v := r2) (S' := S2) (As := [.int (1 : Int32), .int (100 : Int32)]) (rest := []) C cf10 (c_X10_takeNumber l E (1 : Int32) (100 : Int32) _ _ h2) yv_X10_takeNumber lk_RX3_74 rfl aH_10 rfl rfl hl.1 (Nat.le_of_ble_eq_true rfl) (by decide) (by decide) hR (ho_A hR) dX3_beliefAtFirst_14 (fun H locs hR => ?_)
  refine lv_if_ne (tgt := 22) C.1 C.2.1 dX3_beliefAtFirst_17 (by decide) (fun hc => ?_) (fun hc => ?_)
  · replace h := if_f h hc
    refine lv_aload_n C.1 C.2.1 dX3_beliefAtFirst_22 rfl (lv_at hl 0 rfl) ?_
    obtain ⟨p3, e3, hp3, h⟩ := ldP_ok h
    refine hr_getP C cf3 fH_RX3_24 hR aH_20 e3 dX3_beliefAtFirst_23 ?_
    refine lv_aload_n C.1 C.2.1 dX3_beliefAtFirst_26 rfl (lv_at hl 0 rfl) ?_
    refine ho_getR (a' := 10) C cf3 fH_RX3_20 hR aH_20 rfl dX3_beliefAtFirst_27 ?_
    refine ho_getI C cf10 fH_RX3_77 hR aH_10 dX3_beliefAtFirst_30 ?_
    obtain ⟨S4, e4, h⟩ := le1_ok h
    refine hr_putI C cf2 fH_RX3_164 hR hp3 e4 dX3_beliefAtFirst_33 (fun H locs hR => ?_)
    refine lv_iconst (v := (1 : Int32)) C.1 C.2.1 dX3_beliefAtFirst_36 (by decide) ?_
    exact ho_zret C hR (Or.inr rfl) h dX3_beliefAtFirst_37
  · replace h := if_t h hc
    refine lv_iconst (v := (0 : Int32)) C.1 C.2.1 dX3_beliefAtFirst_20 (by decide) ?_
    exact ho_zret C hR (Or.inl rfl) h dX3_beliefAtFirst_21
theorem dX3_boysOfHundred_0 : decode cX3_boysOfHundred 0 = .ok (.aload_n 0, 1) := by decide +kernel
theorem dX3_boysOfHundred_1 : decode cX3_boysOfHundred 1 = .ok (.getfield 20, 3) := by decide +kernel
theorem dX3_boysOfHundred_4 : decode cX3_boysOfHundred 4 = .ok (.invokevirtual 126, 3) := by decide +kernel
theorem dX3_boysOfHundred_7 : decode cX3_boysOfHundred 7 = .ok (.aload_n 0, 1) := by decide +kernel
theorem dX3_boysOfHundred_8 : decode cX3_boysOfHundred 8 = .ok (.getfield 20, 3) := by decide +kernel
theorem dX3_boysOfHundred_11 : decode cX3_boysOfHundred 11 = .ok (.iconst 0, 1) := by decide +kernel
theorem dX3_boysOfHundred_12 : decode cX3_boysOfHundred 12 = .ok (.bipush 100, 2) := by decide +kernel
theorem dX3_boysOfHundred_14 : decode cX3_boysOfHundred 14 = .ok (.invokevirtual 74, 3) := by decide +kernel
theorem dX3_boysOfHundred_17 : decode cX3_boysOfHundred 17 = .ok (.ifCond .ne 5, 3) := by decide +kernel
theorem dX3_boysOfHundred_20 : decode cX3_boysOfHundred 20 = .ok (.iconst 0, 1) := by decide +kernel
theorem dX3_boysOfHundred_21 : decode cX3_boysOfHundred 21 = .ok (.ireturn, 1) := by decide +kernel
theorem dX3_boysOfHundred_22 : decode cX3_boysOfHundred 22 = .ok (.aload_n 0, 1) := by decide +kernel
theorem dX3_boysOfHundred_23 : decode cX3_boysOfHundred 23 = .ok (.getfield 24, 3) := by decide +kernel
theorem dX3_boysOfHundred_26 : decode cX3_boysOfHundred 26 = .ok (.aload_n 0, 1) := by decide +kernel
theorem dX3_boysOfHundred_27 : decode cX3_boysOfHundred 27 = .ok (.getfield 20, 3) := by decide +kernel
theorem dX3_boysOfHundred_30 : decode cX3_boysOfHundred 30 = .ok (.getfield 77, 3) := by decide +kernel
theorem dX3_boysOfHundred_33 : decode cX3_boysOfHundred 33 = .ok (.putfield 167, 3) := by decide +kernel
theorem dX3_boysOfHundred_36 : decode cX3_boysOfHundred 36 = .ok (.iconst 1, 1) := by decide +kernel
theorem dX3_boysOfHundred_37 : decode cX3_boysOfHundred 37 = .ok (.ireturn, 1) := by decide +kernel
def f_X3_boysOfHundred (S : Hp) : Option (Int32 × Hp) :=
  ob (f_X10_next S) (fun S1 => ob2 (f_X10_takeNumber (0 : Int32) (100 : Int32) S1) (fun r2 S2 => if r2 = 0 then some ((0 : Int32), S2) else ldP yH S2 20 2 2 (fun p3 => le1 (ho_sI S2 p3 4 (S2.1 10 8)) (fun S4 => some ((1 : Int32), S4)))))
set_option maxHeartbeats 4000000 in
set_option maxRecDepth 100000 in
theorem c_X3_boysOfHundred (l : Launch) (E : Ev) (S : Hp) (r : (Int32 × Hp)) (h : f_X3_boysOfHundred S = some r) : ho_M l yH E yX3_boysOfHundred cX3_boysOfHundred 1 (some .boolean) 3 [.ref (E.2.1 20)] S (some (.int r.1), r.2) := by
  refine ho_in (by decide) (Nat.le_of_ble_eq_true rfl) ?_
  intro p e s m args below meth c C hR ls hl
  have C : ho_I p s m args meth c RX3 cX3_boysOfHundred 1 (some .boolean) := C
  have hl : lv_has ls 1 [(0, .ref (E.2.1 20))] := hl
  unfold f_X3_boysOfHundred at h
  refine lv_aload_n C.1 C.2.1 dX3_boysOfHundred_0 rfl (lv_at hl 0 rfl) ?_
  refine ho_getR (a' := 10) C cf3 fH_RX3_20 hR aH_20 rfl dX3_boysOfHundred_1 ?_
  obtain ⟨S1, h1, h⟩ := ob_ok h
  refine hr_Vv (S' := S1) (As := []) (rest := []) C cf10 (c_X10_next l E _ _ h1) yv_X10_next lk_RX3_126 rfl aH_10 rfl rfl hl.1 (Nat.le_of_ble_eq_true rfl) (by decide) (by decide) hR (ho_A hR) dX3_boysOfHundred_4 (fun H locs hR => ?_)
  refine lv_aload_n C.1 C.2.1 dX3_boysOfHundred_7 rfl (lv_at hl 0 rfl) ?_
  refine ho_getR (a' := 10) C cf3 fH_RX3_20 hR aH_20 rfl dX3_boysOfHundred_8 ?_
  refine lv_iconst (v := (0 : Int32)) C.1 C.2.1 dX3_boysOfHundred_11 (by decide) ?_
  refine lv_bipush (v := (100 : Int32)) C.1 C.2.1 dX3_boysOfHundred_12 (by decide) ?_
  obtain ⟨r2, S2, h2, h⟩ := ob2_ok h
  refine hr_Vi (v := r2) (S' := S2) (As := [.int (0 : Int32), .int (100 : Int32)]) (rest := []) C cf10 (c_X10_takeNumber l E (0 : Int32) (100 : Int32) _ _ h2) yv_X10_takeNumber lk_RX3_74 rfl aH_10 rfl rfl hl.1 (Nat.le_of_ble_eq_true rfl) (by decide) (by decide) hR (ho_A hR) dX3_boysOfHundred_14 (fun H locs hR => ?_)
  refine lv_if_ne (tgt := 22) C.1 C.2.1 dX3_boysOfHundred_17 (by decide) (fun hc => ?_) (fun hc => ?_)
  · replace h := if_f h hc
    refine lv_aload_n C.1 C.2.1 dX3_boysOfHundred_22 rfl (lv_at hl 0 rfl) ?_
    obtain ⟨p3, e3, hp3, h⟩ := ldP_ok h
    refine hr_getP C cf3 fH_RX3_24 hR aH_20 e3 dX3_boysOfHundred_23 ?_
    refine lv_aload_n C.1 C.2.1 dX3_boysOfHundred_26 rfl (lv_at hl 0 rfl) ?_
    refine ho_getR (a' := 10) C cf3 fH_RX3_20 hR aH_20 rfl dX3_boysOfHundred_27 ?_
    refine ho_getI C cf10 fH_RX3_77 hR aH_10 dX3_boysOfHundred_30 ?_
    obtain ⟨S4, e4, h⟩ := le1_ok h
    refine hr_putI C cf2 fH_RX3_167 hR hp3 e4 dX3_boysOfHundred_33 (fun H locs hR => ?_)
    refine lv_iconst (v := (1 : Int32)) C.1 C.2.1 dX3_boysOfHundred_36 (by decide) ?_
    exact ho_zret C hR (Or.inr rfl) h dX3_boysOfHundred_37
  · replace h := if_t h hc
    refine lv_iconst (v := (0 : Int32)) C.1 C.2.1 dX3_boysOfHundred_20 (by decide) ?_
    exact ho_zret C hR (Or.inl rfl) h dX3_boysOfHundred_21
theorem dX3_statement_0 : decode cX3_statement 0 = .ok (.aload_n 0, 1) := by decide +kernel
theorem dX3_statement_1 : decode cX3_statement 1 = .ok (.getfield 20, 3) := by decide +kernel
theorem dX3_statement_4 : decode cX3_statement 4 = .ok (.getfield 57, 3) := by decide +kernel
theorem dX3_statement_7 : decode cX3_statement 7 = .ok (.iconst 1, 1) := by decide +kernel
theorem dX3_statement_8 : decode cX3_statement 8 = .ok (.if_icmp .eq 19, 3) := by decide +kernel
theorem dX3_statement_11 : decode cX3_statement 11 = .ok (.aload_n 0, 1) := by decide +kernel
theorem dX3_statement_12 : decode cX3_statement 12 = .ok (.getfield 20, 3) := by decide +kernel
theorem dX3_statement_15 : decode cX3_statement 15 = .ok (.iconst 1, 1) := by decide +kernel
theorem dX3_statement_16 : decode cX3_statement 16 = .ok (.aload_n 0, 1) := by decide +kernel
theorem dX3_statement_17 : decode cX3_statement 17 = .ok (.getfield 20, 3) := by decide +kernel
theorem dX3_statement_20 : decode cX3_statement 20 = .ok (.getfield 63, 3) := by decide +kernel
theorem dX3_statement_23 : decode cX3_statement 23 = .ok (.invokevirtual 66, 3) := by decide +kernel
theorem dX3_statement_26 : decode cX3_statement 26 = .ok (.ireturn, 1) := by decide +kernel
theorem dX3_statement_27 : decode cX3_statement 27 = .ok (.aload_n 0, 1) := by decide +kernel
theorem dX3_statement_28 : decode cX3_statement 28 = .ok (.getfield 20, 3) := by decide +kernel
theorem dX3_statement_31 : decode cX3_statement 31 = .ok (.getfield 89, 3) := by decide +kernel
theorem dX3_statement_34 : decode cX3_statement 34 = .ok (.tableswitch 208 3 15 #[66, 208, 89, 208, 208, 208, 112, 208, 208, 134, 166, 198, 203], 66) := by decide +kernel
theorem dX3_statement_100 : decode cX3_statement 100 = .ok (.aload_n 0, 1) := by decide +kernel
theorem dX3_statement_101 : decode cX3_statement 101 = .ok (.iconst 0, 1) := by decide +kernel
theorem dX3_statement_102 : decode cX3_statement 102 = .ok (.bipush 6, 2) := by decide +kernel
theorem dX3_statement_104 : decode cX3_statement 104 = .ok (.invokevirtual 92, 3) := by decide +kernel
theorem dX3_statement_107 : decode cX3_statement 107 = .ok (.ifCond .eq 14, 3) := by decide +kernel
theorem dX3_statement_110 : decode cX3_statement 110 = .ok (.aload_n 0, 1) := by decide +kernel
theorem dX3_statement_111 : decode cX3_statement 111 = .ok (.invokevirtual 95, 3) := by decide +kernel
theorem dX3_statement_114 : decode cX3_statement 114 = .ok (.ifCond .eq 7, 3) := by decide +kernel
theorem dX3_statement_117 : decode cX3_statement 117 = .ok (.iconst 1, 1) := by decide +kernel
theorem dX3_statement_118 : decode cX3_statement 118 = .ok (.goto 4, 3) := by decide +kernel
theorem dX3_statement_121 : decode cX3_statement 121 = .ok (.iconst 0, 1) := by decide +kernel
theorem dX3_statement_122 : decode cX3_statement 122 = .ok (.ireturn, 1) := by decide +kernel
theorem dX3_statement_123 : decode cX3_statement 123 = .ok (.aload_n 0, 1) := by decide +kernel
theorem dX3_statement_124 : decode cX3_statement 124 = .ok (.iconst 1, 1) := by decide +kernel
theorem dX3_statement_125 : decode cX3_statement 125 = .ok (.bipush 6, 2) := by decide +kernel
theorem dX3_statement_127 : decode cX3_statement 127 = .ok (.invokevirtual 92, 3) := by decide +kernel
theorem dX3_statement_130 : decode cX3_statement 130 = .ok (.ifCond .eq 14, 3) := by decide +kernel
theorem dX3_statement_133 : decode cX3_statement 133 = .ok (.aload_n 0, 1) := by decide +kernel
theorem dX3_statement_134 : decode cX3_statement 134 = .ok (.invokevirtual 98, 3) := by decide +kernel
theorem dX3_statement_137 : decode cX3_statement 137 = .ok (.ifCond .eq 7, 3) := by decide +kernel
theorem dX3_statement_140 : decode cX3_statement 140 = .ok (.iconst 1, 1) := by decide +kernel
theorem dX3_statement_141 : decode cX3_statement 141 = .ok (.goto 4, 3) := by decide +kernel
theorem dX3_statement_144 : decode cX3_statement 144 = .ok (.iconst 0, 1) := by decide +kernel
theorem dX3_statement_145 : decode cX3_statement 145 = .ok (.ireturn, 1) := by decide +kernel
theorem dX3_statement_146 : decode cX3_statement 146 = .ok (.aload_n 0, 1) := by decide +kernel
theorem dX3_statement_147 : decode cX3_statement 147 = .ok (.iconst 2, 1) := by decide +kernel
theorem dX3_statement_148 : decode cX3_statement 148 = .ok (.iconst 5, 1) := by decide +kernel
theorem dX3_statement_149 : decode cX3_statement 149 = .ok (.invokevirtual 92, 3) := by decide +kernel
theorem dX3_statement_152 : decode cX3_statement 152 = .ok (.ifCond .eq 14, 3) := by decide +kernel
theorem dX3_statement_155 : decode cX3_statement 155 = .ok (.aload_n 0, 1) := by decide +kernel
theorem dX3_statement_156 : decode cX3_statement 156 = .ok (.invokevirtual 101, 3) := by decide +kernel
theorem dX3_statement_159 : decode cX3_statement 159 = .ok (.ifCond .eq 7, 3) := by decide +kernel
theorem dX3_statement_162 : decode cX3_statement 162 = .ok (.iconst 1, 1) := by decide +kernel
theorem dX3_statement_163 : decode cX3_statement 163 = .ok (.goto 4, 3) := by decide +kernel
theorem dX3_statement_166 : decode cX3_statement 166 = .ok (.iconst 0, 1) := by decide +kernel
theorem dX3_statement_167 : decode cX3_statement 167 = .ok (.ireturn, 1) := by decide +kernel
theorem dX3_statement_168 : decode cX3_statement 168 = .ok (.aload_n 0, 1) := by decide +kernel
theorem dX3_statement_169 : decode cX3_statement 169 = .ok (.invokevirtual 104, 3) := by decide +kernel
theorem dX3_statement_172 : decode cX3_statement 172 = .ok (.ifCond .eq 26, 3) := by decide +kernel
theorem dX3_statement_175 : decode cX3_statement 175 = .ok (.aload_n 0, 1) := by decide +kernel
theorem dX3_statement_176 : decode cX3_statement 176 = .ok (.getfield 39, 3) := by decide +kernel
theorem dX3_statement_179 : decode cX3_statement 179 = .ok (.aload_n 0, 1) := by decide +kernel
theorem dX3_statement_180 : decode cX3_statement 180 = .ok (.getfield 24, 3) := by decide +kernel
theorem dX3_statement_183 : decode cX3_statement 183 = .ok (.getfield 30, 3) := by decide +kernel
theorem dX3_statement_186 : decode cX3_statement 186 = .ok (.ldc 107, 2) := by decide +kernel
theorem dX3_statement_188 : decode cX3_statement 188 = .ok (.invokevirtual 108, 3) := by decide +kernel
theorem dX3_statement_191 : decode cX3_statement 191 = .ok (.ifCond .eq 7, 3) := by decide +kernel
theorem dX3_statement_194 : decode cX3_statement 194 = .ok (.iconst 1, 1) := by decide +kernel
theorem dX3_statement_195 : decode cX3_statement 195 = .ok (.goto 4, 3) := by decide +kernel
theorem dX3_statement_198 : decode cX3_statement 198 = .ok (.iconst 0, 1) := by decide +kernel
theorem dX3_statement_199 : decode cX3_statement 199 = .ok (.ireturn, 1) := by decide +kernel
theorem dX3_statement_200 : decode cX3_statement 200 = .ok (.aload_n 0, 1) := by decide +kernel
theorem dX3_statement_201 : decode cX3_statement 201 = .ok (.invokevirtual 104, 3) := by decide +kernel
theorem dX3_statement_204 : decode cX3_statement 204 = .ok (.ifCond .eq 26, 3) := by decide +kernel
theorem dX3_statement_207 : decode cX3_statement 207 = .ok (.aload_n 0, 1) := by decide +kernel
theorem dX3_statement_208 : decode cX3_statement 208 = .ok (.getfield 39, 3) := by decide +kernel
theorem dX3_statement_211 : decode cX3_statement 211 = .ok (.aload_n 0, 1) := by decide +kernel
theorem dX3_statement_212 : decode cX3_statement 212 = .ok (.getfield 24, 3) := by decide +kernel
theorem dX3_statement_215 : decode cX3_statement 215 = .ok (.getfield 112, 3) := by decide +kernel
theorem dX3_statement_218 : decode cX3_statement 218 = .ok (.ldc 115, 2) := by decide +kernel
theorem dX3_statement_220 : decode cX3_statement 220 = .ok (.invokevirtual 108, 3) := by decide +kernel
theorem dX3_statement_223 : decode cX3_statement 223 = .ok (.ifCond .eq 7, 3) := by decide +kernel
theorem dX3_statement_226 : decode cX3_statement 226 = .ok (.iconst 1, 1) := by decide +kernel
theorem dX3_statement_227 : decode cX3_statement 227 = .ok (.goto 4, 3) := by decide +kernel
theorem dX3_statement_230 : decode cX3_statement 230 = .ok (.iconst 0, 1) := by decide +kernel
theorem dX3_statement_231 : decode cX3_statement 231 = .ok (.ireturn, 1) := by decide +kernel
theorem dX3_statement_232 : decode cX3_statement 232 = .ok (.aload_n 0, 1) := by decide +kernel
theorem dX3_statement_233 : decode cX3_statement 233 = .ok (.invokevirtual 116, 3) := by decide +kernel
theorem dX3_statement_236 : decode cX3_statement 236 = .ok (.ireturn, 1) := by decide +kernel
theorem dX3_statement_237 : decode cX3_statement 237 = .ok (.aload_n 0, 1) := by decide +kernel
theorem dX3_statement_238 : decode cX3_statement 238 = .ok (.invokevirtual 119, 3) := by decide +kernel
theorem dX3_statement_241 : decode cX3_statement 241 = .ok (.ireturn, 1) := by decide +kernel
theorem dX3_statement_242 : decode cX3_statement 242 = .ok (.aload_n 0, 1) := by decide +kernel
theorem dX3_statement_243 : decode cX3_statement 243 = .ok (.getfield 20, 3) := by decide +kernel
theorem dX3_statement_246 : decode cX3_statement 246 = .ok (.iconst 1, 1) := by decide +kernel
theorem dX3_statement_247 : decode cX3_statement 247 = .ok (.aload_n 0, 1) := by decide +kernel
theorem dX3_statement_248 : decode cX3_statement 248 = .ok (.getfield 20, 3) := by decide +kernel
theorem dX3_statement_251 : decode cX3_statement 251 = .ok (.getfield 63, 3) := by decide +kernel
theorem dX3_statement_254 : decode cX3_statement 254 = .ok (.invokevirtual 66, 3) := by decide +kernel
theorem dX3_statement_257 : decode cX3_statement 257 = .ok (.ireturn, 1) := by decide +kernel
def f_X3_statement_242 (S : Hp) : Option (Int32 × Hp) :=
  ob2 (f_X10_wrong (1 : Int32) (S.1 10 5) S) (fun r1 S1 => tr r1 (some (r1, S1)))
set_option maxHeartbeats 4000000 in
set_option maxRecDepth 100000 in
theorem w_X3_statement_242 {p : Program} {l : Launch} {e : Env} {s : State} {m : MethodId} {args : Array Value} {below : List Frame} {meth : Method} {c : Code} {E : Ev} {S0 : Hp} {r : (Int32 × Hp)} (C : ho_I p s m args meth c RX3 cX3_statement 1 (some .boolean)) :
    ∀ (S : Hp), f_X3_statement_242 S = some r → ho_G p l e s m args below meth c yH E S0 70 1 (some (.int r.1), r.2) 242 [(0, .ref (E.2.1 20))] [] S := by
  intro S h H locs ls hR hl
  unfold f_X3_statement_242 at h
  refine lv_aload_n C.1 C.2.1 dX3_statement_242 rfl (lv_at hl 0 rfl) ?_
  refine ho_getR (a' := 10) C cf3 fH_RX3_20 hR aH_20 rfl dX3_statement_243 ?_
  refine lv_iconst (v := (1 : Int32)) C.1 C.2.1 dX3_statement_246 (by decide) ?_
  refine lv_aload_n C.1 C.2.1 dX3_statement_247 rfl (lv_at hl 0 rfl) ?_
  refine ho_getR (a' := 10) C cf3 fH_RX3_20 hR aH_20 rfl dX3_statement_248 ?_
  refine ho_getI C cf10 fH_RX3_63 hR aH_10 dX3_statement_251 ?_
  obtain ⟨r1, S1, h1, h⟩ := ob2_ok h
  refine hr_Vi (v := r1) (S' := S1) (As := [.int (1 : Int32), .int (S.1 10 5)]) (rest := []) C cf10 (c_X10_wrong l E (1 : Int32) (S.1 10 5) _ _ h1) yv_X10_wrong lk_RX3_66 rfl aH_10 rfl rfl hl.1 (Nat.le_of_ble_eq_true rfl) (by decide) (by decide) hR (ho_A hR) dX3_statement_254 (fun H locs hR => ?_)
  obtain ⟨hz, h⟩ := tr_ok h
  exact ho_zret C hR hz h dX3_statement_257
def f_X3_statement (S : Hp) : Option (Int32 × Hp) :=
  if (S.1 10 4) = (1 : Int32) then if (S.1 10 6) = (3 : Int32) then ob2 (f_X3_oneMore (0 : Int32) (6 : Int32) S) (fun r1 S1 => if r1 = 0 then some ((0 : Int32), S1) else ob2 (f_X3_newProvince S1) (fun r2 S2 => if r2 = 0 then some ((0 : Int32), S2) else some ((1 : Int32), S2))) else if (S.1 10 6) = (4 : Int32) then f_X3_statement_242 S else if (S.1 10 6) = (5 : Int32) then ob2 (f_X3_oneMore (1 : Int32) (6 : Int32) S) (fun r3 S3 => if r3 = 0 then some ((0 : Int32), S3) else ob2 (f_X3_newTrick S3) (fun r4 S4 => if r4 = 0 then some ((0 : Int32), S4) else some ((1 : Int32), S4))) else if (S.1 10 6) = (6 : Int32) then f_X3_statement_242 S else if (S.1 10 6) = (7 : Int32) then f_X3_statement_242 S else if (S.1 10 6) = (8 : Int32) then f_X3_statement_242 S else if (S.1 10 6) = (9 : Int32) then ob2 (f_X3_oneMore (2 : Int32) (5 : Int32) S) (fun r5 S5 => if r5 = 0 then some ((0 : Int32), S5) else ob2 (f_X3_newWatcher S5) (fun r6 S6 => if r6 = 0 then some ((0 : Int32), S6) else some ((1 : Int32), S6))) else if (S.1 10 6) = (10 : Int32) then f_X3_statement_242 S else if (S.1 10 6) = (11 : Int32) then f_X3_statement_242 S else if (S.1 10 6) = (12 : Int32) then ob2 (f_X3_onlyOne S) (fun r7 S7 => if r7 = 0 then some ((0 : Int32), S7) else ldP yH S7 20 2 2 (fun p8 => ob2 (f_X7_readSum 25 (p8 + 13) (199936 : Int32) S7) (fun r9 S9 => if r9 = 0 then some ((0 : Int32), S9) else some ((1 : Int32), S9)))) else if (S.1 10 6) = (13 : Int32) then ob2 (f_X3_onlyOne S) (fun r10 S10 => if r10 = 0 then some ((0 : Int32), S10) else ldP yH S10 20 2 2 (fun p11 => ob2 (f_X7_readSum 25 (p11 + 16) (213312 : Int32) S10) (fun r12 S12 => if r12 = 0 then some ((0 : Int32), S12) else some ((1 : Int32), S12)))) else if (S.1 10 6) = (14 : Int32) then ob2 (f_X3_beliefAtFirst S) (fun r13 S13 => tr r13 (some (r13, S13))) else if (S.1 10 6) = (15 : Int32) then ob2 (f_X3_boysOfHundred S) (fun r14 S14 => tr r14 (some (r14, S14))) else f_X3_statement_242 S else ob2 (f_X10_wrong (1 : Int32) (S.1 10 5) S) (fun r15 S15 => tr r15 (some (r15, S15)))
set_option maxHeartbeats 4000000 in
set_option maxRecDepth 100000 in
theorem c_X3_statement (l : Launch) (E : Ev) (S : Hp) (r : (Int32 × Hp)) (h : f_X3_statement S = some r) : ho_M l yH E yX3_statement cX3_statement 1 (some .boolean) 70 [.ref (E.2.1 20)] S (some (.int r.1), r.2) := by
  refine ho_in (by decide) (Nat.le_of_ble_eq_true rfl) ?_
  intro p e s m args below meth c C hR ls hl
  have C : ho_I p s m args meth c RX3 cX3_statement 1 (some .boolean) := C
  have hl : lv_has ls 1 [(0, .ref (E.2.1 20))] := hl
  unfold f_X3_statement at h
  refine lv_aload_n C.1 C.2.1 dX3_statement_0 rfl (lv_at hl 0 rfl) ?_
  refine ho_getR (a' := 10) C cf3 fH_RX3_20 hR aH_20 rfl dX3_statement_1 ?_
  refine ho_getI C cf10 fH_RX3_57 hR aH_10 dX3_statement_4 ?_
  refine lv_iconst (v := (1 : Int32)) C.1 C.2.1 dX3_statement_7 (by decide) ?_
  refine lv_icmp_eq (tgt := 27) C.1 C.2.1 dX3_statement_8 (by decide) (fun hc => ?_) (fun hc => ?_)
  · replace h := if_t h hc
    refine lv_aload_n C.1 C.2.1 dX3_statement_27 rfl (lv_at hl 0 rfl) ?_
    refine ho_getR (a' := 10) C cf3 fH_RX3_20 hR aH_20 rfl dX3_statement_28 ?_
    refine ho_getI C cf10 fH_RX3_89 hR aH_10 dX3_statement_31 ?_
    by_cases hc0 : (S.1 10 6) = (3 : Int32)
    · replace h := if_t h hc0
      have hx : ((S.1 10 6)).toInt = 3 := by rw [hc0]; decide
      refine lv_tableIn (off := 66) (tgt := 100) C.1 C.2.1 dX3_statement_34 (by rw [hx]; decide) (by rw [hx]; decide) (by rw [hx]; decide) (by decide) ?_
      refine lv_aload_n C.1 C.2.1 dX3_statement_100 rfl (lv_at hl 0 rfl) ?_
      refine lv_iconst (v := (0 : Int32)) C.1 C.2.1 dX3_statement_101 (by decide) ?_
      refine lv_bipush (v := (6 : Int32)) C.1 C.2.1 dX3_statement_102 (by decide) ?_
      obtain ⟨r1, S1, h1, h⟩ := ob2_ok h
      refine hr_Vi (v := r1) (S' := S1) (As := [.int (0 : Int32), .int (6 : Int32)]) (rest := []) C cf3 (c_X3_oneMore l E (0 : Int32) (6 : Int32) _ _ h1) yv_X3_oneMore lk_RX3_92 rfl aH_20 rfl rfl hl.1 (Nat.le_of_ble_eq_true rfl) (by decide) (by decide) hR (ho_A hR) dX3_statement_104 (fun H locs hR => ?_)
      refine lv_if_eq (tgt := 121) C.1 C.2.1 dX3_statement_107 (by decide) (fun hc => ?_) (fun hc => ?_)
      · replace h := if_t h hc
        refine lv_iconst (v := (0 : Int32)) C.1 C.2.1 dX3_statement_121 (by decide) ?_
        exact ho_zret C hR (Or.inl rfl) h dX3_statement_122
      · replace h := if_f h hc
        refine lv_aload_n C.1 C.2.1 dX3_statement_110 rfl (lv_at hl 0 rfl) ?_
        obtain ⟨r2, S2, h2, h⟩ := ob2_ok h
        refine hr_Vi (v := r2) (S' := S2) (As := []) (rest := []) C cf3 (c_X3_newProvince l E _ _ h2) yv_X3_newProvince lk_RX3_95 rfl aH_20 rfl rfl hl.1 (Nat.le_of_ble_eq_true rfl) (by decide) (by decide) hR (ho_A hR) dX3_statement_111 (fun H locs hR => ?_)
        refine lv_if_eq (tgt := 121) C.1 C.2.1 dX3_statement_114 (by decide) (fun hc => ?_) (fun hc => ?_)
        · replace h := if_t h hc
          refine lv_iconst (v := (0 : Int32)) C.1 C.2.1 dX3_statement_121 (by decide) ?_
          exact ho_zret C hR (Or.inl rfl) h dX3_statement_122
        · replace h := if_f h hc
          refine lv_iconst (v := (1 : Int32)) C.1 C.2.1 dX3_statement_117 (by decide) ?_
          refine lv_goto (tgt := 122) C.1 C.2.1 dX3_statement_118 (by decide) ?_
          exact ho_zret C hR (Or.inr rfl) h dX3_statement_122
    · replace h := if_f h hc0
      by_cases hc1 : (S.1 10 6) = (4 : Int32)
      · replace h := if_t h hc1
        have hx : ((S.1 10 6)).toInt = 4 := by rw [hc1]; decide
        refine lv_tableIn (off := 208) (tgt := 242) C.1 C.2.1 dX3_statement_34 (by rw [hx]; decide) (by rw [hx]; decide) (by rw [hx]; decide) (by decide) ?_
        exact w_X3_statement_242 C S h _ _ _ hR (lv_sub hl [0] rfl)
      · replace h := if_f h hc1
        by_cases hc2 : (S.1 10 6) = (5 : Int32)
        · replace h := if_t h hc2
          have hx : ((S.1 10 6)).toInt = 5 := by rw [hc2]; decide
          refine lv_tableIn (off := 89) (tgt := 123) C.1 C.2.1 dX3_statement_34 (by rw [hx]; decide) (by rw [hx]; decide) (by rw [hx]; decide) (by decide) ?_
          refine lv_aload_n C.1 C.2.1 dX3_statement_123 rfl (lv_at hl 0 rfl) ?_
          refine lv_iconst (v := (1 : Int32)) C.1 C.2.1 dX3_statement_124 (by decide) ?_
          refine lv_bipush (v := (6 : Int32)) C.1 C.2.1 dX3_statement_125 (by decide) ?_
          obtain ⟨r3, S3, h3, h⟩ := ob2_ok h
          refine hr_Vi (v := r3) (S' := S3) (As := [.int (1 : Int32), .int (6 : Int32)]) (rest := []) C cf3 (c_X3_oneMore l E (1 : Int32) (6 : Int32) _ _ h3) yv_X3_oneMore lk_RX3_92 rfl aH_20 rfl rfl hl.1 (Nat.le_of_ble_eq_true rfl) (by decide) (by decide) hR (ho_A hR) dX3_statement_127 (fun H locs hR => ?_)
          refine lv_if_eq (tgt := 144) C.1 C.2.1 dX3_statement_130 (by decide) (fun hc => ?_) (fun hc => ?_)
          · replace h := if_t h hc
            refine lv_iconst (v := (0 : Int32)) C.1 C.2.1 dX3_statement_144 (by decide) ?_
            exact ho_zret C hR (Or.inl rfl) h dX3_statement_145
          · replace h := if_f h hc
            refine lv_aload_n C.1 C.2.1 dX3_statement_133 rfl (lv_at hl 0 rfl) ?_
            obtain ⟨r4, S4, h4, h⟩ := ob2_ok h
            refine hr_Vi (v := r4) (S' := S4) (As := []) (rest := []) C cf3 (c_X3_newTrick l E _ _ h4) yv_X3_newTrick lk_RX3_98 rfl aH_20 rfl rfl hl.1 (Nat.le_of_ble_eq_true rfl) (by decide) (by decide) hR (ho_A hR) dX3_statement_134 (fun H locs hR => ?_)
            refine lv_if_eq (tgt := 144) C.1 C.2.1 dX3_statement_137 (by decide) (fun hc => ?_) (fun hc => ?_)
            · replace h := if_t h hc
              refine lv_iconst (v := (0 : Int32)) C.1 C.2.1 dX3_statement_144 (by decide) ?_
              exact ho_zret C hR (Or.inl rfl) h dX3_statement_145
            · replace h := if_f h hc
              refine lv_iconst (v := (1 : Int32)) C.1 C.2.1 dX3_statement_140 (by decide) ?_
              refine lv_goto (tgt := 145) C.1 C.2.1 dX3_statement_141 (by decide) ?_
              exact ho_zret C hR (Or.inr rfl) h dX3_statement_145
        · replace h := if_f h hc2
          by_cases hc3 : (S.1 10 6) = (6 : Int32)
          · replace h := if_t h hc3
            have hx : ((S.1 10 6)).toInt = 6 := by rw [hc3]; decide
            refine lv_tableIn (off := 208) (tgt := 242) C.1 C.2.1 dX3_statement_34 (by rw [hx]; decide) (by rw [hx]; decide) (by rw [hx]; decide) (by decide) ?_
            exact w_X3_statement_242 C S h _ _ _ hR (lv_sub hl [0] rfl)
          · replace h := if_f h hc3
            by_cases hc4 : (S.1 10 6) = (7 : Int32)
            · replace h := if_t h hc4
              have hx : ((S.1 10 6)).toInt = 7 := by rw [hc4]; decide
              refine lv_tableIn (off := 208) (tgt := 242) C.1 C.2.1 dX3_statement_34 (by rw [hx]; decide) (by rw [hx]; decide) (by rw [hx]; decide) (by decide) ?_
              exact w_X3_statement_242 C S h _ _ _ hR (lv_sub hl [0] rfl)
            · replace h := if_f h hc4
              by_cases hc5 : (S.1 10 6) = (8 : Int32)
              · replace h := if_t h hc5
                have hx : ((S.1 10 6)).toInt = 8 := by rw [hc5]; decide
                refine lv_tableIn (off := 208) (tgt := 242) C.1 C.2.1 dX3_statement_34 (by rw [hx]; decide) (by rw [hx]; decide) (by rw [hx]; decide) (by decide) ?_
                exact w_X3_statement_242 C S h _ _ _ hR (lv_sub hl [0] rfl)
              · replace h := if_f h hc5
                by_cases hc6 : (S.1 10 6) = (9 : Int32)
                · replace h := if_t h hc6
                  have hx : ((S.1 10 6)).toInt = 9 := by rw [hc6]; decide
                  refine lv_tableIn (off := 112) (tgt := 146) C.1 C.2.1 dX3_statement_34 (by rw [hx]; decide) (by rw [hx]; decide) (by rw [hx]; decide) (by decide) ?_
                  refine lv_aload_n C.1 C.2.1 dX3_statement_146 rfl (lv_at hl 0 rfl) ?_
                  refine lv_iconst (v := (2 : Int32)) C.1 C.2.1 dX3_statement_147 (by decide) ?_
                  refine lv_iconst (v := (5 : Int32)) C.1 C.2.1 dX3_statement_148 (by decide) ?_
                  obtain ⟨r5, S5, h5, h⟩ := ob2_ok h
                  refine hr_Vi (v := r5) (S' := S5) (As := [.int (2 : Int32), .int (5 : Int32)]) (rest := []) C cf3 (c_X3_oneMore l E (2 : Int32) (5 : Int32) _ _ h5) yv_X3_oneMore lk_RX3_92 rfl aH_20 rfl rfl hl.1 (Nat.le_of_ble_eq_true rfl) (by decide) (by decide) hR (ho_A hR) dX3_statement_149 (fun H locs hR => ?_)
                  refine lv_if_eq (tgt := 166) C.1 C.2.1 dX3_statement_152 (by decide) (fun hc => ?_) (fun hc => ?_)
                  · replace h := if_t h hc
                    refine lv_iconst (v := (0 : Int32)) C.1 C.2.1 dX3_statement_166 (by decide) ?_
                    exact ho_zret C hR (Or.inl rfl) h dX3_statement_167
                  · replace h := if_f h hc
                    refine lv_aload_n C.1 C.2.1 dX3_statement_155 rfl (lv_at hl 0 rfl) ?_
                    obtain ⟨r6, S6, h6, h⟩ := ob2_ok h
                    refine hr_Vi (v := r6) (S' := S6) (As := []) (rest := []) C cf3 (c_X3_newWatcher l E _ _ h6) yv_X3_newWatcher lk_RX3_101 rfl aH_20 rfl rfl hl.1 (Nat.le_of_ble_eq_true rfl) (by decide) (by decide) hR (ho_A hR) dX3_statement_156 (fun H locs hR => ?_)
                    refine lv_if_eq (tgt := 166) C.1 C.2.1 dX3_statement_159 (by decide) (fun hc => ?_) (fun hc => ?_)
                    · replace h := if_t h hc
                      refine lv_iconst (v := (0 : Int32)) C.1 C.2.1 dX3_statement_166 (by decide) ?_
                      exact ho_zret C hR (Or.inl rfl) h dX3_statement_167
                    · replace h := if_f h hc
                      refine lv_iconst (v := (1 : Int32)) C.1 C.2.1 dX3_statement_162 (by decide) ?_
                      refine lv_goto (tgt := 167) C.1 C.2.1 dX3_statement_163 (by decide) ?_
                      exact ho_zret C hR (Or.inr rfl) h dX3_statement_167
                · replace h := if_f h hc6
                  by_cases hc7 : (S.1 10 6) = (10 : Int32)
                  · replace h := if_t h hc7
                    have hx : ((S.1 10 6)).toInt = 10 := by rw [hc7]; decide
                    refine lv_tableIn (off := 208) (tgt := 242) C.1 C.2.1 dX3_statement_34 (by rw [hx]; decide) (by rw [hx]; decide) (by rw [hx]; decide) (by decide) ?_
                    exact w_X3_statement_242 C S h _ _ _ hR (lv_sub hl [0] rfl)
                  · replace h := if_f h hc7
                    by_cases hc8 : (S.1 10 6) = (11 : Int32)
                    · replace h := if_t h hc8
                      have hx : ((S.1 10 6)).toInt = 11 := by rw [hc8]; decide
                      refine lv_tableIn (off := 208) (tgt := 242) C.1 C.2.1 dX3_statement_34 (by rw [hx]; decide) (by rw [hx]; decide) (by rw [hx]; decide) (by decide) ?_
                      exact w_X3_statement_242 C S h _ _ _ hR (lv_sub hl [0] rfl)
                    · replace h := if_f h hc8
                      by_cases hc9 : (S.1 10 6) = (12 : Int32)
                      · replace h := if_t h hc9
                        have hx : ((S.1 10 6)).toInt = 12 := by rw [hc9]; decide
                        refine lv_tableIn (off := 134) (tgt := 168) C.1 C.2.1 dX3_statement_34 (by rw [hx]; decide) (by rw [hx]; decide) (by rw [hx]; decide) (by decide) ?_
                        refine lv_aload_n C.1 C.2.1 dX3_statement_168 rfl (lv_at hl 0 rfl) ?_
                        obtain ⟨r7, S7, h7, h⟩ := ob2_ok h
                        refine hr_Vi (v := r7) (S' := S7) (As := []) (rest := []) C cf3 (c_X3_onlyOne l E _ _ h7) yv_X3_onlyOne lk_RX3_104 rfl aH_20 rfl rfl hl.1 (Nat.le_of_ble_eq_true rfl) (by decide) (by decide) hR (ho_A hR) dX3_statement_169 (fun H locs hR => ?_)
                        refine lv_if_eq (tgt := 198) C.1 C.2.1 dX3_statement_172 (by decide) (fun hc => ?_) (fun hc => ?_)
                        · replace h := if_t h hc
                          refine lv_iconst (v := (0 : Int32)) C.1 C.2.1 dX3_statement_198 (by decide) ?_
                          exact ho_zret C hR (Or.inl rfl) h dX3_statement_199
                        · replace h := if_f h hc
                          refine lv_aload_n C.1 C.2.1 dX3_statement_175 rfl (lv_at hl 0 rfl) ?_
                          refine ho_getR (a' := 25) C cf3 fH_RX3_39 hR aH_20 rfl dX3_statement_176 ?_
                          refine lv_aload_n C.1 C.2.1 dX3_statement_179 rfl (lv_at hl 0 rfl) ?_
                          obtain ⟨p8, e8, hp8, h⟩ := ldP_ok h
                          refine hr_getP C cf3 fH_RX3_24 hR aH_20 e8 dX3_statement_180 ?_
                          refine ho_getR (a' := (p8 + 13)) C cf2 fH_RX3_30 hR hp8 (pH_2_14 hp8.2) dX3_statement_183 ?_
                          refine lv_ldc (v := (199936 : Int32)) C.1 C.2.1 C.2.2.2.2.1 (C.2.2.2.2.2.1 _ kc_RX3_107) dX3_statement_186 ?_
                          obtain ⟨r9, S9, h9, h⟩ := ob2_ok h
                          refine hr_Vi (v := r9) (S' := S9) (As := [.ref (E.2.1 (p8 + 13)), .int (199936 : Int32)]) (rest := []) C cf7 (c_X7_readSum l E 25 (p8 + 13) (199936 : Int32) aH_25 (rH_2_13 hp8) _ _ h9) yv_X7_readSum lk_RX3_108 rfl aH_25 rfl rfl hl.1 (Nat.le_of_ble_eq_true rfl) (by decide) (by decide) hR (ho_A hR) dX3_statement_188 (fun H locs hR => ?_)
                          refine lv_if_eq (tgt := 198) C.1 C.2.1 dX3_statement_191 (by decide) (fun hc => ?_) (fun hc => ?_)
                          · replace h := if_t h hc
                            refine lv_iconst (v := (0 : Int32)) C.1 C.2.1 dX3_statement_198 (by decide) ?_
                            exact ho_zret C hR (Or.inl rfl) h dX3_statement_199
                          · replace h := if_f h hc
                            refine lv_iconst (v := (1 : Int32)) C.1 C.2.1 dX3_statement_194 (by decide) ?_
                            refine lv_goto (tgt := 199) C.1 C.2.1 dX3_statement_195 (by decide) ?_
                            exact ho_zret C hR (Or.inr rfl) h dX3_statement_199
                      · replace h := if_f h hc9
                        by_cases hc10 : (S.1 10 6) = (13 : Int32)
                        · replace h := if_t h hc10
                          have hx : ((S.1 10 6)).toInt = 13 := by rw [hc10]; decide
                          refine lv_tableIn (off := 166) (tgt := 200) C.1 C.2.1 dX3_statement_34 (by rw [hx]; decide) (by rw [hx]; decide) (by rw [hx]; decide) (by decide) ?_
                          refine lv_aload_n C.1 C.2.1 dX3_statement_200 rfl (lv_at hl 0 rfl) ?_
                          obtain ⟨r10, S10, h10, h⟩ := ob2_ok h
                          refine hr_Vi (v := r10) (S' := S10) (As := []) (rest := []) C cf3 (c_X3_onlyOne l E _ _ h10) yv_X3_onlyOne lk_RX3_104 rfl aH_20 rfl rfl hl.1 (Nat.le_of_ble_eq_true rfl) (by decide) (by decide) hR (ho_A hR) dX3_statement_201 (fun H locs hR => ?_)
                          refine lv_if_eq (tgt := 230) C.1 C.2.1 dX3_statement_204 (by decide) (fun hc => ?_) (fun hc => ?_)
                          · replace h := if_t h hc
                            refine lv_iconst (v := (0 : Int32)) C.1 C.2.1 dX3_statement_230 (by decide) ?_
                            exact ho_zret C hR (Or.inl rfl) h dX3_statement_231
                          · replace h := if_f h hc
                            refine lv_aload_n C.1 C.2.1 dX3_statement_207 rfl (lv_at hl 0 rfl) ?_
                            refine ho_getR (a' := 25) C cf3 fH_RX3_39 hR aH_20 rfl dX3_statement_208 ?_
                            refine lv_aload_n C.1 C.2.1 dX3_statement_211 rfl (lv_at hl 0 rfl) ?_
                            obtain ⟨p11, e11, hp11, h⟩ := ldP_ok h
                            refine hr_getP C cf3 fH_RX3_24 hR aH_20 e11 dX3_statement_212 ?_
                            refine ho_getR (a' := (p11 + 16)) C cf2 fH_RX3_112 hR hp11 (pH_2_15 hp11.2) dX3_statement_215 ?_
                            refine lv_ldc (v := (213312 : Int32)) C.1 C.2.1 C.2.2.2.2.1 (C.2.2.2.2.2.1 _ kc_RX3_115) dX3_statement_218 ?_
                            obtain ⟨r12, S12, h12, h⟩ := ob2_ok h
                            refine hr_Vi (v := r12) (S' := S12) (As := [.ref (E.2.1 (p11 + 16)), .int (213312 : Int32)]) (rest := []) C cf7 (c_X7_readSum l E 25 (p11 + 16) (213312 : Int32) aH_25 (rH_2_16 hp11) _ _ h12) yv_X7_readSum lk_RX3_108 rfl aH_25 rfl rfl hl.1 (Nat.le_of_ble_eq_true rfl) (by decide) (by decide) hR (ho_A hR) dX3_statement_220 (fun H locs hR => ?_)
                            refine lv_if_eq (tgt := 230) C.1 C.2.1 dX3_statement_223 (by decide) (fun hc => ?_) (fun hc => ?_)
                            · replace h := if_t h hc
                              refine lv_iconst (v := (0 : Int32)) C.1 C.2.1 dX3_statement_230 (by decide) ?_
                              exact ho_zret C hR (Or.inl rfl) h dX3_statement_231
                            · replace h := if_f h hc
                              refine lv_iconst (v := (1 : Int32)) C.1 C.2.1 dX3_statement_226 (by decide) ?_
                              refine lv_goto (tgt := 231) C.1 C.2.1 dX3_statement_227 (by decide) ?_
                              exact ho_zret C hR (Or.inr rfl) h dX3_statement_231
                        · replace h := if_f h hc10
                          by_cases hc11 : (S.1 10 6) = (14 : Int32)
                          · replace h := if_t h hc11
                            have hx : ((S.1 10 6)).toInt = 14 := by rw [hc11]; decide
                            refine lv_tableIn (off := 198) (tgt := 232) C.1 C.2.1 dX3_statement_34 (by rw [hx]; decide) (by rw [hx]; decide) (by rw [hx]; decide) (by decide) ?_
                            refine lv_aload_n C.1 C.2.1 dX3_statement_232 rfl (lv_at hl 0 rfl) ?_
                            obtain ⟨r13, S13, h13, h⟩ := ob2_ok h
                            refine hr_Vi (v := r13) (S' := S13) (As := []) (rest := []) C cf3 (c_X3_beliefAtFirst l E _ _ h13) yv_X3_beliefAtFirst lk_RX3_116 rfl aH_20 rfl rfl hl.1 (Nat.le_of_ble_eq_true rfl) (by decide) (by decide) hR (ho_A hR) dX3_statement_233 (fun H locs hR => ?_)
                            obtain ⟨hz, h⟩ := tr_ok h
                            exact ho_zret C hR hz h dX3_statement_236
                          · replace h := if_f h hc11
                            by_cases hc12 : (S.1 10 6) = (15 : Int32)
                            · replace h := if_t h hc12
                              have hx : ((S.1 10 6)).toInt = 15 := by rw [hc12]; decide
                              refine lv_tableIn (off := 203) (tgt := 237) C.1 C.2.1 dX3_statement_34 (by rw [hx]; decide) (by rw [hx]; decide) (by rw [hx]; decide) (by decide) ?_
                              refine lv_aload_n C.1 C.2.1 dX3_statement_237 rfl (lv_at hl 0 rfl) ?_
                              obtain ⟨r14, S14, h14, h⟩ := ob2_ok h
                              refine hr_Vi (v := r14) (S' := S14) (As := []) (rest := []) C cf3 (c_X3_boysOfHundred l E _ _ h14) yv_X3_boysOfHundred lk_RX3_119 rfl aH_20 rfl rfl hl.1 (Nat.le_of_ble_eq_true rfl) (by decide) (by decide) hR (ho_A hR) dX3_statement_238 (fun H locs hR => ?_)
                              obtain ⟨hz, h⟩ := tr_ok h
                              exact ho_zret C hR hz h dX3_statement_241
                            · replace h := if_f h hc12
                              have hx0 := lv_neT hc0 (a := 3) (by decide)
                              have hx1 := lv_neT hc1 (a := 4) (by decide)
                              have hx2 := lv_neT hc2 (a := 5) (by decide)
                              have hx3 := lv_neT hc3 (a := 6) (by decide)
                              have hx4 := lv_neT hc4 (a := 7) (by decide)
                              have hx5 := lv_neT hc5 (a := 8) (by decide)
                              have hx6 := lv_neT hc6 (a := 9) (by decide)
                              have hx7 := lv_neT hc7 (a := 10) (by decide)
                              have hx8 := lv_neT hc8 (a := 11) (by decide)
                              have hx9 := lv_neT hc9 (a := 12) (by decide)
                              have hx10 := lv_neT hc10 (a := 13) (by decide)
                              have hx11 := lv_neT hc11 (a := 14) (by decide)
                              have hx12 := lv_neT hc12 (a := 15) (by decide)
                              refine lv_tableOut (tgt := 242) C.1 C.2.1 dX3_statement_34 (by omega) (by decide) ?_
                              exact w_X3_statement_242 C S h _ _ _ hR (lv_sub hl [0] rfl)
  · replace h := if_f h hc
    refine lv_aload_n C.1 C.2.1 dX3_statement_11 rfl (lv_at hl 0 rfl) ?_
    refine ho_getR (a' := 10) C cf3 fH_RX3_20 hR aH_20 rfl dX3_statement_12 ?_
    refine lv_iconst (v := (1 : Int32)) C.1 C.2.1 dX3_statement_15 (by decide) ?_
    refine lv_aload_n C.1 C.2.1 dX3_statement_16 rfl (lv_at hl 0 rfl) ?_
    refine ho_getR (a' := 10) C cf3 fH_RX3_20 hR aH_20 rfl dX3_statement_17 ?_
    refine ho_getI C cf10 fH_RX3_63 hR aH_10 dX3_statement_20 ?_
    obtain ⟨r15, S15, h15, h⟩ := ob2_ok h
    refine hr_Vi (v := r15) (S' := S15) (As := [.int (1 : Int32), .int (S.1 10 5)]) (rest := []) C cf10 (c_X10_wrong l E (1 : Int32) (S.1 10 5) _ _ h15) yv_X10_wrong lk_RX3_66 rfl aH_10 rfl rfl hl.1 (Nat.le_of_ble_eq_true rfl) (by decide) (by decide) hR (ho_A hR) dX3_statement_23 (fun H locs hR => ?_)
    obtain ⟨hz, h⟩ := tr_ok h
    exact ho_zret C hR hz h dX3_statement_26
theorem dX3_readInto_0 : decode cX3_readInto 0 = .ok (.aload_n 0, 1) := by decide +kernel
theorem dX3_readInto_1 : decode cX3_readInto 1 = .ok (.aload_n 1, 1) := by decide +kernel
theorem dX3_readInto_2 : decode cX3_readInto 2 = .ok (.putfield 24, 3) := by decide +kernel
theorem dX3_readInto_5 : decode cX3_readInto 5 = .ok (.aload_n 0, 1) := by decide +kernel
theorem dX3_readInto_6 : decode cX3_readInto 6 = .ok (.getfield 24, 3) := by decide +kernel
theorem dX3_readInto_9 : decode cX3_readInto 9 = .ok (.invokevirtual 43, 3) := by decide +kernel
theorem dX3_readInto_12 : decode cX3_readInto 12 = .ok (.aload_n 0, 1) := by decide +kernel
theorem dX3_readInto_13 : decode cX3_readInto 13 = .ok (.iconst 0, 1) := by decide +kernel
theorem dX3_readInto_14 : decode cX3_readInto 14 = .ok (.putfield 11, 3) := by decide +kernel
theorem dX3_readInto_17 : decode cX3_readInto 17 = .ok (.aload_n 0, 1) := by decide +kernel
theorem dX3_readInto_18 : decode cX3_readInto 18 = .ok (.getfield 20, 3) := by decide +kernel
theorem dX3_readInto_21 : decode cX3_readInto 21 = .ok (.invokevirtual 46, 3) := by decide +kernel
theorem dX3_readInto_24 : decode cX3_readInto 24 = .ok (.aload_n 0, 1) := by decide +kernel
theorem dX3_readInto_25 : decode cX3_readInto 25 = .ok (.invokevirtual 49, 3) := by decide +kernel
theorem dX3_readInto_28 : decode cX3_readInto 28 = .ok (.ifCond .eq 15, 3) := by decide +kernel
theorem dX3_readInto_31 : decode cX3_readInto 31 = .ok (.aload_n 0, 1) := by decide +kernel
theorem dX3_readInto_32 : decode cX3_readInto 32 = .ok (.getfield 20, 3) := by decide +kernel
theorem dX3_readInto_35 : decode cX3_readInto 35 = .ok (.bipush 59, 2) := by decide +kernel
theorem dX3_readInto_37 : decode cX3_readInto 37 = .ok (.invokevirtual 53, 3) := by decide +kernel
theorem dX3_readInto_40 : decode cX3_readInto 40 = .ok (.ifCond .ne 5, 3) := by decide +kernel
theorem dX3_readInto_43 : decode cX3_readInto 43 = .ok (.iconst 0, 1) := by decide +kernel
theorem dX3_readInto_44 : decode cX3_readInto 44 = .ok (.ireturn, 1) := by decide +kernel
theorem dX3_readInto_45 : decode cX3_readInto 45 = .ok (.aload_n 0, 1) := by decide +kernel
theorem dX3_readInto_46 : decode cX3_readInto 46 = .ok (.iconst 1, 1) := by decide +kernel
theorem dX3_readInto_47 : decode cX3_readInto 47 = .ok (.putfield 17, 3) := by decide +kernel
theorem dX3_readInto_50 : decode cX3_readInto 50 = .ok (.aload_n 0, 1) := by decide +kernel
theorem dX3_readInto_51 : decode cX3_readInto 51 = .ok (.getfield 17, 3) := by decide +kernel
theorem dX3_readInto_54 : decode cX3_readInto 54 = .ok (.bipush 60, 2) := by decide +kernel
theorem dX3_readInto_56 : decode cX3_readInto 56 = .ok (.if_icmp .ge 47, 3) := by decide +kernel
theorem dX3_readInto_59 : decode cX3_readInto 59 = .ok (.aload_n 0, 1) := by decide +kernel
theorem dX3_readInto_60 : decode cX3_readInto 60 = .ok (.getfield 20, 3) := by decide +kernel
theorem dX3_readInto_63 : decode cX3_readInto 63 = .ok (.getfield 57, 3) := by decide +kernel
theorem dX3_readInto_66 : decode cX3_readInto 66 = .ok (.ifCond .eq 37, 3) := by decide +kernel
theorem dX3_readInto_69 : decode cX3_readInto 69 = .ok (.aload_n 0, 1) := by decide +kernel
theorem dX3_readInto_70 : decode cX3_readInto 70 = .ok (.invokevirtual 60, 3) := by decide +kernel
theorem dX3_readInto_73 : decode cX3_readInto 73 = .ok (.ifCond .eq 15, 3) := by decide +kernel
theorem dX3_readInto_76 : decode cX3_readInto 76 = .ok (.aload_n 0, 1) := by decide +kernel
theorem dX3_readInto_77 : decode cX3_readInto 77 = .ok (.getfield 20, 3) := by decide +kernel
theorem dX3_readInto_80 : decode cX3_readInto 80 = .ok (.bipush 59, 2) := by decide +kernel
theorem dX3_readInto_82 : decode cX3_readInto 82 = .ok (.invokevirtual 53, 3) := by decide +kernel
theorem dX3_readInto_85 : decode cX3_readInto 85 = .ok (.ifCond .ne 5, 3) := by decide +kernel
theorem dX3_readInto_88 : decode cX3_readInto 88 = .ok (.iconst 0, 1) := by decide +kernel
theorem dX3_readInto_89 : decode cX3_readInto 89 = .ok (.ireturn, 1) := by decide +kernel
theorem dX3_readInto_90 : decode cX3_readInto 90 = .ok (.aload_n 0, 1) := by decide +kernel
theorem dX3_readInto_91 : decode cX3_readInto 91 = .ok (.dup, 1) := by decide +kernel
theorem dX3_readInto_92 : decode cX3_readInto 92 = .ok (.getfield 17, 3) := by decide +kernel
theorem dX3_readInto_95 : decode cX3_readInto 95 = .ok (.iconst 1, 1) := by decide +kernel
theorem dX3_readInto_96 : decode cX3_readInto 96 = .ok (.iadd, 1) := by decide +kernel
theorem dX3_readInto_97 : decode cX3_readInto 97 = .ok (.putfield 17, 3) := by decide +kernel
theorem dX3_readInto_100 : decode cX3_readInto 100 = .ok (.goto (-50), 3) := by decide +kernel
theorem dX3_readInto_103 : decode cX3_readInto 103 = .ok (.aload_n 0, 1) := by decide +kernel
theorem dX3_readInto_104 : decode cX3_readInto 104 = .ok (.getfield 20, 3) := by decide +kernel
theorem dX3_readInto_107 : decode cX3_readInto 107 = .ok (.getfield 57, 3) := by decide +kernel
theorem dX3_readInto_110 : decode cX3_readInto 110 = .ok (.ifCond .eq 21, 3) := by decide +kernel
theorem dX3_readInto_113 : decode cX3_readInto 113 = .ok (.aload_n 0, 1) := by decide +kernel
theorem dX3_readInto_114 : decode cX3_readInto 114 = .ok (.getfield 20, 3) := by decide +kernel
theorem dX3_readInto_117 : decode cX3_readInto 117 = .ok (.iconst 5, 1) := by decide +kernel
theorem dX3_readInto_118 : decode cX3_readInto 118 = .ok (.aload_n 0, 1) := by decide +kernel
theorem dX3_readInto_119 : decode cX3_readInto 119 = .ok (.getfield 20, 3) := by decide +kernel
theorem dX3_readInto_122 : decode cX3_readInto 122 = .ok (.getfield 63, 3) := by decide +kernel
theorem dX3_readInto_125 : decode cX3_readInto 125 = .ok (.invokevirtual 66, 3) := by decide +kernel
theorem dX3_readInto_128 : decode cX3_readInto 128 = .ok (.ifCond .eq 7, 3) := by decide +kernel
theorem dX3_readInto_131 : decode cX3_readInto 131 = .ok (.iconst 1, 1) := by decide +kernel
theorem dX3_readInto_132 : decode cX3_readInto 132 = .ok (.goto 4, 3) := by decide +kernel
theorem dX3_readInto_135 : decode cX3_readInto 135 = .ok (.iconst 0, 1) := by decide +kernel
theorem dX3_readInto_136 : decode cX3_readInto 136 = .ok (.ireturn, 1) := by decide +kernel
def f_X3_readInto_131 (a1 : Nat) (S : Hp) : Option (Int32 × Hp) :=
  some ((1 : Int32), S)
set_option maxHeartbeats 4000000 in
set_option maxRecDepth 100000 in
theorem w_X3_readInto_131 {p : Program} {l : Launch} {e : Env} {s : State} {m : MethodId} {args : Array Value} {below : List Frame} {meth : Method} {c : Code} {E : Ev} {S0 : Hp} {r : (Int32 × Hp)} (C : ho_I p s m args meth c RX3 cX3_readInto 2 (some .boolean)) (a1 : Nat) (ha1 : a1 ∈ yH.1 ∧ yH.2.1 a1 = (1, 2)) :
    ∀ (S : Hp), f_X3_readInto_131 a1 S = some r → ho_G p l e s m args below meth c yH E S0 71 2 (some (.int r.1), r.2) 131 [] [] S := by
  intro S h H locs ls hR hl
  unfold f_X3_readInto_131 at h
  refine lv_iconst (v := (1 : Int32)) C.1 C.2.1 dX3_readInto_131 (by decide) ?_
  refine lv_goto (tgt := 136) C.1 C.2.1 dX3_readInto_132 (by decide) ?_
  exact ho_zret C hR (Or.inr rfl) h dX3_readInto_136
def f_X3_readInto_103 (a1 : Nat) (S : Hp) : Option (Int32 × Hp) :=
  if (S.1 10 4) = 0 then f_X3_readInto_131 a1 S else ob2 (f_X10_wrong (5 : Int32) (S.1 10 5) S) (fun r1 S1 => if r1 = 0 then some ((0 : Int32), S1) else f_X3_readInto_131 a1 S1)
set_option maxHeartbeats 4000000 in
set_option maxRecDepth 100000 in
theorem w_X3_readInto_103 {p : Program} {l : Launch} {e : Env} {s : State} {m : MethodId} {args : Array Value} {below : List Frame} {meth : Method} {c : Code} {E : Ev} {S0 : Hp} {r : (Int32 × Hp)} (C : ho_I p s m args meth c RX3 cX3_readInto 2 (some .boolean)) (a1 : Nat) (ha1 : a1 ∈ yH.1 ∧ yH.2.1 a1 = (1, 2)) :
    ∀ (S : Hp), f_X3_readInto_103 a1 S = some r → ho_G p l e s m args below meth c yH E S0 71 2 (some (.int r.1), r.2) 103 [(0, .ref (E.2.1 20))] [] S := by
  intro S h H locs ls hR hl
  unfold f_X3_readInto_103 at h
  refine lv_aload_n C.1 C.2.1 dX3_readInto_103 rfl (lv_at hl 0 rfl) ?_
  refine ho_getR (a' := 10) C cf3 fH_RX3_20 hR aH_20 rfl dX3_readInto_104 ?_
  refine ho_getI C cf10 fH_RX3_57 hR aH_10 dX3_readInto_107 ?_
  refine lv_if_eq (tgt := 131) C.1 C.2.1 dX3_readInto_110 (by decide) (fun hc => ?_) (fun hc => ?_)
  · replace h := if_t h hc
    exact w_X3_readInto_131 C a1 ha1 S h _ _ _ hR (lv_sub hl [] rfl)
  · replace h := if_f h hc
    refine lv_aload_n C.1 C.2.1 dX3_readInto_113 rfl (lv_at hl 0 rfl) ?_
    refine ho_getR (a' := 10) C cf3 fH_RX3_20 hR aH_20 rfl dX3_readInto_114 ?_
    refine lv_iconst (v := (5 : Int32)) C.1 C.2.1 dX3_readInto_117 (by decide) ?_
    refine lv_aload_n C.1 C.2.1 dX3_readInto_118 rfl (lv_at hl 0 rfl) ?_
    refine ho_getR (a' := 10) C cf3 fH_RX3_20 hR aH_20 rfl dX3_readInto_119 ?_
    refine ho_getI C cf10 fH_RX3_63 hR aH_10 dX3_readInto_122 ?_
    obtain ⟨r1, S1, h1, h⟩ := ob2_ok h
    refine hr_Vi (v := r1) (S' := S1) (As := [.int (5 : Int32), .int (S.1 10 5)]) (rest := []) C cf10 (c_X10_wrong l E (5 : Int32) (S.1 10 5) _ _ h1) yv_X10_wrong lk_RX3_66 rfl aH_10 rfl rfl hl.1 (Nat.le_of_ble_eq_true rfl) (by decide) (by decide) hR (ho_A hR) dX3_readInto_125 (fun H locs hR => ?_)
    refine lv_if_eq (tgt := 135) C.1 C.2.1 dX3_readInto_128 (by decide) (fun hc => ?_) (fun hc => ?_)
    · replace h := if_t h hc
      refine lv_iconst (v := (0 : Int32)) C.1 C.2.1 dX3_readInto_135 (by decide) ?_
      exact ho_zret C hR (Or.inl rfl) h dX3_readInto_136
    · replace h := if_f h hc
      exact w_X3_readInto_131 C a1 ha1 S1 h _ _ _ hR (lv_sub hl [] rfl)
def f_X3_readInto_50 (a1 : Nat) : Nat → Hp → Option (Int32 × Hp)
  | 0, _ => none
  | k + 1, S => if (60 : Int32) ≤ (S.1 20 4) then f_X3_readInto_103 a1 S else if (S.1 10 4) = 0 then f_X3_readInto_103 a1 S else ob2 (f_X3_statement S) (fun r1 S1 => if r1 = 0 then some ((0 : Int32), S1) else ob2 (f_X10_takeSign (59 : Int32) S1) (fun r2 S2 => if r2 = 0 then some ((0 : Int32), S2) else le1 (ho_sI S2 20 4 ((S2.1 20 4) + (1 : Int32))) (fun S3 => f_X3_readInto_50 a1 k S3)))
set_option maxHeartbeats 4000000 in
set_option maxRecDepth 100000 in
theorem w_X3_readInto_50 {p : Program} {l : Launch} {e : Env} {s : State} {m : MethodId} {args : Array Value} {below : List Frame} {meth : Method} {c : Code} {E : Ev} {S0 : Hp} {r : (Int32 × Hp)} (C : ho_I p s m args meth c RX3 cX3_readInto 2 (some .boolean)) (a1 : Nat) (ha1 : a1 ∈ yH.1 ∧ yH.2.1 a1 = (1, 2)) :
    ∀ (k : Nat) (S : Hp), f_X3_readInto_50 a1 k S = some r → ho_G p l e s m args below meth c yH E S0 71 2 (some (.int r.1), r.2) 50 [(0, .ref (E.2.1 20))] [] S := by
  intro k
  induction k with
  | zero =>
    intro S h
    exact absurd (show (none : Option (Int32 × Hp)) = some r from h) (by simp)
  | succ k ih =>
    intro S h H locs ls hR hl
    rw [f_X3_readInto_50] at h
    refine lv_aload_n C.1 C.2.1 dX3_readInto_50 rfl (lv_at hl 0 rfl) ?_
    refine ho_getI C cf3 fH_RX3_17 hR aH_20 dX3_readInto_51 ?_
    refine lv_bipush (v := (60 : Int32)) C.1 C.2.1 dX3_readInto_54 (by decide) ?_
    refine lv_icmp_ge (tgt := 103) C.1 C.2.1 dX3_readInto_56 (by decide) (fun hc => ?_) (fun hc => ?_)
    · replace h := if_t h hc
      exact w_X3_readInto_103 C a1 ha1 S h _ _ _ hR (lv_sub hl [0] rfl)
    · replace h := if_f h hc
      refine lv_aload_n C.1 C.2.1 dX3_readInto_59 rfl (lv_at hl 0 rfl) ?_
      refine ho_getR (a' := 10) C cf3 fH_RX3_20 hR aH_20 rfl dX3_readInto_60 ?_
      refine ho_getI C cf10 fH_RX3_57 hR aH_10 dX3_readInto_63 ?_
      refine lv_if_eq (tgt := 103) C.1 C.2.1 dX3_readInto_66 (by decide) (fun hc => ?_) (fun hc => ?_)
      · replace h := if_t h hc
        exact w_X3_readInto_103 C a1 ha1 S h _ _ _ hR (lv_sub hl [0] rfl)
      · replace h := if_f h hc
        refine lv_aload_n C.1 C.2.1 dX3_readInto_69 rfl (lv_at hl 0 rfl) ?_
        obtain ⟨r1, S1, h1, h⟩ := ob2_ok h
        refine hr_Vi (v := r1) (S' := S1) (As := []) (rest := []) C cf3 (c_X3_statement l E _ _ h1) yv_X3_statement lk_RX3_60 rfl aH_20 rfl rfl hl.1 (Nat.le_of_ble_eq_true rfl) (by decide) (by decide) hR (ho_A hR) dX3_readInto_70 (fun H locs hR => ?_)
        refine lv_if_eq (tgt := 88) C.1 C.2.1 dX3_readInto_73 (by decide) (fun hc => ?_) (fun hc => ?_)
        · replace h := if_t h hc
          refine lv_iconst (v := (0 : Int32)) C.1 C.2.1 dX3_readInto_88 (by decide) ?_
          exact ho_zret C hR (Or.inl rfl) h dX3_readInto_89
        · replace h := if_f h hc
          refine lv_aload_n C.1 C.2.1 dX3_readInto_76 rfl (lv_at hl 0 rfl) ?_
          refine ho_getR (a' := 10) C cf3 fH_RX3_20 hR aH_20 rfl dX3_readInto_77 ?_
          refine lv_bipush (v := (59 : Int32)) C.1 C.2.1 dX3_readInto_80 (by decide) ?_
          obtain ⟨r2, S2, h2, h⟩ := ob2_ok h
          refine hr_Vi (v := r2) (S' := S2) (As := [.int (59 : Int32)]) (rest := []) C cf10 (c_X10_takeSign l E (59 : Int32) _ _ h2) yv_X10_takeSign lk_RX3_53 rfl aH_10 rfl rfl hl.1 (Nat.le_of_ble_eq_true rfl) (by decide) (by decide) hR (ho_A hR) dX3_readInto_82 (fun H locs hR => ?_)
          refine lv_if_ne (tgt := 90) C.1 C.2.1 dX3_readInto_85 (by decide) (fun hc => ?_) (fun hc => ?_)
          · replace h := if_f h hc
            refine lv_aload_n C.1 C.2.1 dX3_readInto_90 rfl (lv_at hl 0 rfl) ?_
            refine lv_dup C.1 C.2.1 dX3_readInto_91 rfl ?_
            refine ho_getI C cf3 fH_RX3_17 hR aH_20 dX3_readInto_92 ?_
            refine lv_iconst (v := (1 : Int32)) C.1 C.2.1 dX3_readInto_95 (by decide) ?_
            refine lv_iadd C.1 C.2.1 dX3_readInto_96 ?_
            obtain ⟨S3, e3, h⟩ := le1_ok h
            refine hr_putI C cf3 fH_RX3_17 hR aH_20 e3 dX3_readInto_97 (fun H locs hR => ?_)
            refine lv_goto (tgt := 50) C.1 C.2.1 dX3_readInto_100 (by decide) ?_
            exact ih S3 h _ _ _ hR (lv_sub hl [0] rfl)
          · replace h := if_t h hc
            refine lv_iconst (v := (0 : Int32)) C.1 C.2.1 dX3_readInto_88 (by decide) ?_
            exact ho_zret C hR (Or.inl rfl) h dX3_readInto_89
def f_X3_readInto (a1 : Nat) (S : Hp) : Option (Int32 × Hp) :=
  le1 (ho_sP S 20 2 a1) (fun S1 => ldP yH S1 20 2 2 (fun p2 => ob (f_X2_clear p2 S1) (fun S3 => le1 (ho_sI S3 20 3 (0 : Int32)) (fun S4 => ob (f_X10_begin S4) (fun S5 => ob2 (f_X3_treasury S5) (fun r6 S6 => if r6 = 0 then some ((0 : Int32), S6) else ob2 (f_X10_takeSign (59 : Int32) S6) (fun r7 S7 => if r7 = 0 then some ((0 : Int32), S7) else le1 (ho_sI S7 20 4 (1 : Int32)) (fun S8 => f_X3_readInto_50 a1 5000 S8))))))))
set_option maxHeartbeats 4000000 in
set_option maxRecDepth 100000 in
theorem c_X3_readInto (l : Launch) (E : Ev) (a1 : Nat) (ha1 : a1 ∈ yH.1 ∧ yH.2.1 a1 = (1, 2)) (S : Hp) (r : (Int32 × Hp)) (h : f_X3_readInto a1 S = some r) : ho_M l yH E yX3_readInto cX3_readInto 2 (some .boolean) 71 [.ref (E.2.1 20), .ref (E.2.1 a1)] S (some (.int r.1), r.2) := by
  refine ho_in (by decide) (Nat.le_of_ble_eq_true rfl) ?_
  intro p e s m args below meth c C hR ls hl
  have C : ho_I p s m args meth c RX3 cX3_readInto 2 (some .boolean) := C
  have hl : lv_has ls 2 [(0, .ref (E.2.1 20)), (1, .ref (E.2.1 a1))] := hl
  unfold f_X3_readInto at h
  refine lv_aload_n C.1 C.2.1 dX3_readInto_0 rfl (lv_at hl 0 rfl) ?_
  refine lv_aload_n C.1 C.2.1 dX3_readInto_1 rfl (lv_at hl 1 rfl) ?_
  obtain ⟨S1, e1, h⟩ := le1_ok h
  refine hr_putP C cf3 fH_RX3_24 hR aH_20 e1 dX3_readInto_2 (fun H locs hR => ?_)
  refine lv_aload_n C.1 C.2.1 dX3_readInto_5 rfl (lv_at hl 0 rfl) ?_
  obtain ⟨p2, e2, hp2, h⟩ := ldP_ok h
  refine hr_getP C cf3 fH_RX3_24 hR aH_20 e2 dX3_readInto_6 ?_
  obtain ⟨S3, h3, h⟩ := ob_ok h
  refine hr_Vv (S' := S3) (As := []) (rest := []) C cf2 (c_X2_clear l E p2 hp2 _ _ h3) yv_X2_clear lk_RX3_43 rfl hp2 rfl rfl hl.1 (Nat.le_of_ble_eq_true rfl) (by decide) (by decide) hR (ho_A hR) dX3_readInto_9 (fun H locs hR => ?_)
  refine lv_aload_n C.1 C.2.1 dX3_readInto_12 rfl (lv_at hl 0 rfl) ?_
  refine lv_iconst (v := (0 : Int32)) C.1 C.2.1 dX3_readInto_13 (by decide) ?_
  obtain ⟨S4, e4, h⟩ := le1_ok h
  refine hr_putI C cf3 fH_RX3_11 hR aH_20 e4 dX3_readInto_14 (fun H locs hR => ?_)
  refine lv_aload_n C.1 C.2.1 dX3_readInto_17 rfl (lv_at hl 0 rfl) ?_
  refine ho_getR (a' := 10) C cf3 fH_RX3_20 hR aH_20 rfl dX3_readInto_18 ?_
  obtain ⟨S5, h5, h⟩ := ob_ok h
  refine hr_Vv (S' := S5) (As := []) (rest := []) C cf10 (c_X10_begin l E _ _ h5) yv_X10_begin lk_RX3_46 rfl aH_10 rfl rfl hl.1 (Nat.le_of_ble_eq_true rfl) (by decide) (by decide) hR (ho_A hR) dX3_readInto_21 (fun H locs hR => ?_)
  refine lv_aload_n C.1 C.2.1 dX3_readInto_24 rfl (lv_at hl 0 rfl) ?_
  obtain ⟨r6, S6, h6, h⟩ := ob2_ok h
  refine hr_Vi (v := r6) (S' := S6) (As := []) (rest := []) C cf3 (c_X3_treasury l E _ _ h6) yv_X3_treasury lk_RX3_49 rfl aH_20 rfl rfl hl.1 (Nat.le_of_ble_eq_true rfl) (by decide) (by decide) hR (ho_A hR) dX3_readInto_25 (fun H locs hR => ?_)
  refine lv_if_eq (tgt := 43) C.1 C.2.1 dX3_readInto_28 (by decide) (fun hc => ?_) (fun hc => ?_)
  · replace h := if_t h hc
    refine lv_iconst (v := (0 : Int32)) C.1 C.2.1 dX3_readInto_43 (by decide) ?_
    exact ho_zret C hR (Or.inl rfl) h dX3_readInto_44
  · replace h := if_f h hc
    refine lv_aload_n C.1 C.2.1 dX3_readInto_31 rfl (lv_at hl 0 rfl) ?_
    refine ho_getR (a' := 10) C cf3 fH_RX3_20 hR aH_20 rfl dX3_readInto_32 ?_
    refine lv_bipush (v := (59 : Int32)) C.1 C.2.1 dX3_readInto_35 (by decide) ?_
    obtain ⟨r7, S7, h7, h⟩ := ob2_ok h
    refine hr_Vi (v := r7) (S' := S7) (As := [.int (59 : Int32)]) (rest := []) C cf10 (c_X10_takeSign l E (59 : Int32) _ _ h7) yv_X10_takeSign lk_RX3_53 rfl aH_10 rfl rfl hl.1 (Nat.le_of_ble_eq_true rfl) (by decide) (by decide) hR (ho_A hR) dX3_readInto_37 (fun H locs hR => ?_)
    refine lv_if_ne (tgt := 45) C.1 C.2.1 dX3_readInto_40 (by decide) (fun hc => ?_) (fun hc => ?_)
    · replace h := if_f h hc
      refine lv_aload_n C.1 C.2.1 dX3_readInto_45 rfl (lv_at hl 0 rfl) ?_
      refine lv_iconst (v := (1 : Int32)) C.1 C.2.1 dX3_readInto_46 (by decide) ?_
      obtain ⟨S8, e8, h⟩ := le1_ok h
      refine hr_putI C cf3 fH_RX3_17 hR aH_20 e8 dX3_readInto_47 (fun H locs hR => ?_)
      exact w_X3_readInto_50 C a1 ha1 5000 S8 h _ _ _ hR (lv_sub hl [0] rfl)
    · replace h := if_t h hc
      refine lv_iconst (v := (0 : Int32)) C.1 C.2.1 dX3_readInto_43 (by decide) ?_
      exact ho_zret C hR (Or.inl rfl) h dX3_readInto_44
theorem dX5_put_0 : decode cX5_put 0 = .ok (.bipush 8, 2) := by decide +kernel
theorem dX5_put_2 : decode cX5_put 2 = .ok (.iload_n 2, 1) := by decide +kernel
theorem dX5_put_3 : decode cX5_put 3 = .ok (.iconst 1, 1) := by decide +kernel
theorem dX5_put_4 : decode cX5_put 4 = .ok (.isub, 1) := by decide +kernel
theorem dX5_put_5 : decode cX5_put 5 = .ok (.imul, 1) := by decide +kernel
theorem dX5_put_6 : decode cX5_put 6 = .ok (.istore_n 3, 1) := by decide +kernel
theorem dX5_put_7 : decode cX5_put 7 = .ok (.iload_n 3, 1) := by decide +kernel
theorem dX5_put_8 : decode cX5_put 8 = .ok (.ifCond .lt 44, 3) := by decide +kernel
theorem dX5_put_11 : decode cX5_put 11 = .ok (.aload_n 0, 1) := by decide +kernel
theorem dX5_put_12 : decode cX5_put 12 = .ok (.getfield 15, 3) := by decide +kernel
theorem dX5_put_15 : decode cX5_put 15 = .ok (.bipush 48, 2) := by decide +kernel
theorem dX5_put_17 : decode cX5_put 17 = .ok (.if_icmp .ge 29, 3) := by decide +kernel
theorem dX5_put_20 : decode cX5_put 20 = .ok (.aload_n 0, 1) := by decide +kernel
theorem dX5_put_21 : decode cX5_put 21 = .ok (.getfield 11, 3) := by decide +kernel
theorem dX5_put_24 : decode cX5_put 24 = .ok (.aload_n 0, 1) := by decide +kernel
theorem dX5_put_25 : decode cX5_put 25 = .ok (.getfield 15, 3) := by decide +kernel
theorem dX5_put_28 : decode cX5_put 28 = .ok (.iload_n 1, 1) := by decide +kernel
theorem dX5_put_29 : decode cX5_put 29 = .ok (.iload_n 3, 1) := by decide +kernel
theorem dX5_put_30 : decode cX5_put 30 = .ok (.ishr, 1) := by decide +kernel
theorem dX5_put_31 : decode cX5_put 31 = .ok (.sipush 255, 3) := by decide +kernel
theorem dX5_put_34 : decode cX5_put 34 = .ok (.iand, 1) := by decide +kernel
theorem dX5_put_35 : decode cX5_put 35 = .ok (.iastore, 1) := by decide +kernel
theorem dX5_put_36 : decode cX5_put 36 = .ok (.aload_n 0, 1) := by decide +kernel
theorem dX5_put_37 : decode cX5_put 37 = .ok (.dup, 1) := by decide +kernel
theorem dX5_put_38 : decode cX5_put 38 = .ok (.getfield 15, 3) := by decide +kernel
theorem dX5_put_41 : decode cX5_put 41 = .ok (.iconst 1, 1) := by decide +kernel
theorem dX5_put_42 : decode cX5_put 42 = .ok (.iadd, 1) := by decide +kernel
theorem dX5_put_43 : decode cX5_put 43 = .ok (.putfield 15, 3) := by decide +kernel
theorem dX5_put_46 : decode cX5_put 46 = .ok (.iinc 3 (-8), 3) := by decide +kernel
theorem dX5_put_49 : decode cX5_put 49 = .ok (.goto (-42), 3) := by decide +kernel
theorem dX5_put_52 : decode cX5_put 52 = .ok (.return_, 1) := by decide +kernel
def f_X5_put_46 (K7 : Int32 → Int32 → Hp → Option Hp) (x1 : Int32) (x3 : Int32) (S : Hp) : Option Hp :=
  le1 (x3 + (-8 : Int32)) (fun v1 => K7 x1 v1 S)
set_option maxHeartbeats 4000000 in
set_option maxRecDepth 100000 in
theorem w_X5_put_46 {p : Program} {l : Launch} {e : Env} {s : State} {m : MethodId} {args : Array Value} {below : List Frame} {meth : Method} {c : Code} {E : Ev} {S0 : Hp} {r : Hp} (C : ho_I p s m args meth c RX5 cX5_put 4 none) (K7 : Int32 → Int32 → Hp → Option Hp) (hK7 : ∀ (y1 : Int32) (y3 : Int32) (S : Hp), K7 y1 y3 S = some r → ho_G p l e s m args below meth c yH E S0 0 4 (none, r) 7 [(0, .ref (E.2.1 90)), (1, .int y1), (3, .int y3)] [] S) :
    ∀ (x1 : Int32) (x3 : Int32) (S : Hp), f_X5_put_46 K7 x1 x3 S = some r → ho_G p l e s m args below meth c yH E S0 0 4 (none, r) 46 [(0, .ref (E.2.1 90)), (1, .int x1), (3, .int x3)] [] S := by
  intro x1 x3 S h H locs ls hR hl
  unfold f_X5_put_46 at h
  obtain ⟨v1, e1, h⟩ := le1_ok h
  refine lv_iinc (v := v1) (lv' := [(3, .int v1), (0, .ref (E.2.1 90)), (1, .int x1)]) C.1 C.2.1 dX5_put_46 hl (k := 2) rfl (by rw [e1]; rfl) (by decide) rfl (fun ls hl => ?_)
  refine lv_goto (tgt := 7) C.1 C.2.1 dX5_put_49 (by decide) ?_
  exact hK7 x1 v1 S h _ _ _ hR (lv_sub hl [1, 2, 0] rfl)
def f_X5_put_7 : Nat → Int32 → Int32 → Hp → Option Hp
  | 0, _, _, _ => none
  | k + 1, x1, x3, S => if x3 < 0 then some S else if (48 : Int32) ≤ (S.1 90 1) then f_X5_put_46 (f_X5_put_7 k) x1 x3 S else stI S 91 48 (S.1 90 1) ((x1 >>> (x3 &&& 31)) &&& (255 : Int32)) (fun S1 => le1 (ho_sI S1 90 1 ((S1.1 90 1) + (1 : Int32))) (fun S2 => f_X5_put_46 (f_X5_put_7 k) x1 x3 S2))
set_option maxHeartbeats 4000000 in
set_option maxRecDepth 100000 in
theorem w_X5_put_7 {p : Program} {l : Launch} {e : Env} {s : State} {m : MethodId} {args : Array Value} {below : List Frame} {meth : Method} {c : Code} {E : Ev} {S0 : Hp} {r : Hp} (C : ho_I p s m args meth c RX5 cX5_put 4 none) :
    ∀ (k : Nat) (x1 : Int32) (x3 : Int32) (S : Hp), f_X5_put_7 k x1 x3 S = some r → ho_G p l e s m args below meth c yH E S0 0 4 (none, r) 7 [(0, .ref (E.2.1 90)), (1, .int x1), (3, .int x3)] [] S := by
  intro k
  induction k with
  | zero =>
    intro x1 x3 S h
    exact absurd (show (none : Option Hp) = some r from h) (by simp)
  | succ k ih =>
    intro x1 x3 S h H locs ls hR hl
    rw [f_X5_put_7] at h
    refine lv_iload_n C.1 C.2.1 dX5_put_7 rfl (lv_at hl 2 rfl) ?_
    refine lv_if_lt (tgt := 52) C.1 C.2.1 dX5_put_8 (by decide) (fun hc => ?_) (fun hc => ?_)
    · replace h := if_t h hc
      exact ho_vret C hR h dX5_put_52
    · replace h := if_f h hc
      refine lv_aload_n C.1 C.2.1 dX5_put_11 rfl (lv_at hl 0 rfl) ?_
      refine ho_getI C cf5 fH_RX5_15 hR aH_90 dX5_put_12 ?_
      refine lv_bipush (v := (48 : Int32)) C.1 C.2.1 dX5_put_15 (by decide) ?_
      refine lv_icmp_ge (tgt := 46) C.1 C.2.1 dX5_put_17 (by decide) (fun hc => ?_) (fun hc => ?_)
      · replace h := if_t h hc
        exact w_X5_put_46 C (f_X5_put_7 k) ih x1 x3 S h _ _ _ hR (lv_sub hl [0, 1, 2] rfl)
      · replace h := if_f h hc
        refine lv_aload_n C.1 C.2.1 dX5_put_20 rfl (lv_at hl 0 rfl) ?_
        refine ho_getR (a' := 91) C cf5 fH_RX5_11 hR aH_90 rfl dX5_put_21 ?_
        refine lv_aload_n C.1 C.2.1 dX5_put_24 rfl (lv_at hl 0 rfl) ?_
        refine ho_getI C cf5 fH_RX5_15 hR aH_90 dX5_put_25 ?_
        refine lv_iload_n C.1 C.2.1 dX5_put_28 rfl (lv_at hl 1 rfl) ?_
        refine lv_iload_n C.1 C.2.1 dX5_put_29 rfl (lv_at hl 2 rfl) ?_
        refine lv_ishr C.1 C.2.1 dX5_put_30 ?_
        refine lv_sipush (v := (255 : Int32)) C.1 C.2.1 dX5_put_31 (by decide) ?_
        refine lv_iand C.1 C.2.1 dX5_put_34 ?_
        obtain ⟨S1, e1, hi1, h⟩ := stI_ok h
        refine hr_ist C hR aH_91 hi1 e1 dX5_put_35 (fun H locs hR => ?_)
        refine lv_aload_n C.1 C.2.1 dX5_put_36 rfl (lv_at hl 0 rfl) ?_
        refine lv_dup C.1 C.2.1 dX5_put_37 rfl ?_
        refine ho_getI C cf5 fH_RX5_15 hR aH_90 dX5_put_38 ?_
        refine lv_iconst (v := (1 : Int32)) C.1 C.2.1 dX5_put_41 (by decide) ?_
        refine lv_iadd C.1 C.2.1 dX5_put_42 ?_
        obtain ⟨S2, e2, h⟩ := le1_ok h
        refine hr_putI C cf5 fH_RX5_15 hR aH_90 e2 dX5_put_43 (fun H locs hR => ?_)
        exact w_X5_put_46 C (f_X5_put_7 k) ih x1 x3 S2 h _ _ _ hR (lv_sub hl [0, 1, 2] rfl)
def f_X5_put (x1 : Int32) (x2 : Int32) (S : Hp) : Option Hp :=
  le1 ((8 : Int32) * (x2 - (1 : Int32))) (fun v1 => f_X5_put_7 5000 x1 v1 S)
set_option maxHeartbeats 4000000 in
set_option maxRecDepth 100000 in
theorem c_X5_put (l : Launch) (E : Ev) (x1 : Int32) (x2 : Int32) (S : Hp) (r : Hp) (h : f_X5_put x1 x2 S = some r) : ho_M l yH E yX5_put cX5_put 4 none 0 [.ref (E.2.1 90), .int x1, .int x2] S (none, r) := by
  refine ho_in (by decide) (Nat.le_of_ble_eq_true rfl) ?_
  intro p e s m args below meth c C hR ls hl
  have C : ho_I p s m args meth c RX5 cX5_put 4 none := C
  have hl : lv_has ls 4 [(0, .ref (E.2.1 90)), (1, .int x1), (2, .int x2)] := hl
  unfold f_X5_put at h
  refine lv_bipush (v := (8 : Int32)) C.1 C.2.1 dX5_put_0 (by decide) ?_
  refine lv_iload_n C.1 C.2.1 dX5_put_2 rfl (lv_at hl 2 rfl) ?_
  refine lv_iconst (v := (1 : Int32)) C.1 C.2.1 dX5_put_3 (by decide) ?_
  refine lv_isub C.1 C.2.1 dX5_put_4 ?_
  refine lv_imul C.1 C.2.1 dX5_put_5 ?_
  refine lv_topi (fun v1 e1 => ?_)
  replace h := le1_at e1 h
  refine lv_istore_n (lv' := [(3, .int v1), (0, .ref (E.2.1 90)), (1, .int x1), (2, .int x2)]) C.1 C.2.1 dX5_put_6 rfl hl (by decide) rfl (fun ls hl => ?_)
  exact w_X5_put_7 C 5000 x1 v1 S h _ _ _ hR (lv_sub hl [1, 2, 0] rfl)
theorem dX5_write_0 : decode cX5_write 0 = .ok (.aload_n 0, 1) := by decide +kernel
theorem dX5_write_1 : decode cX5_write 1 = .ok (.iconst 0, 1) := by decide +kernel
theorem dX5_write_2 : decode cX5_write 2 = .ok (.putfield 15, 3) := by decide +kernel
theorem dX5_write_5 : decode cX5_write 5 = .ok (.aload_n 0, 1) := by decide +kernel
theorem dX5_write_6 : decode cX5_write 6 = .ok (.aload_n 1, 1) := by decide +kernel
theorem dX5_write_7 : decode cX5_write 7 = .ok (.getfield 22, 3) := by decide +kernel
theorem dX5_write_10 : decode cX5_write 10 = .ok (.iconst 2, 1) := by decide +kernel
theorem dX5_write_11 : decode cX5_write 11 = .ok (.invokevirtual 27, 3) := by decide +kernel
theorem dX5_write_14 : decode cX5_write 14 = .ok (.aload_n 0, 1) := by decide +kernel
theorem dX5_write_15 : decode cX5_write 15 = .ok (.aload_n 1, 1) := by decide +kernel
theorem dX5_write_16 : decode cX5_write 16 = .ok (.getfield 31, 3) := by decide +kernel
theorem dX5_write_19 : decode cX5_write 19 = .ok (.iconst 3, 1) := by decide +kernel
theorem dX5_write_20 : decode cX5_write 20 = .ok (.invokevirtual 27, 3) := by decide +kernel
theorem dX5_write_23 : decode cX5_write 23 = .ok (.aload_n 0, 1) := by decide +kernel
theorem dX5_write_24 : decode cX5_write 24 = .ok (.aload_n 1, 1) := by decide +kernel
theorem dX5_write_25 : decode cX5_write 25 = .ok (.getfield 34, 3) := by decide +kernel
theorem dX5_write_28 : decode cX5_write 28 = .ok (.iconst 1, 1) := by decide +kernel
theorem dX5_write_29 : decode cX5_write 29 = .ok (.invokevirtual 27, 3) := by decide +kernel
theorem dX5_write_32 : decode cX5_write 32 = .ok (.iconst 0, 1) := by decide +kernel
theorem dX5_write_33 : decode cX5_write 33 = .ok (.istore_n 3, 1) := by decide +kernel
theorem dX5_write_34 : decode cX5_write 34 = .ok (.iload_n 3, 1) := by decide +kernel
theorem dX5_write_35 : decode cX5_write 35 = .ok (.aload_n 2, 1) := by decide +kernel
theorem dX5_write_36 : decode cX5_write 36 = .ok (.getfield 37, 3) := by decide +kernel
theorem dX5_write_39 : decode cX5_write 39 = .ok (.iconst 0, 1) := by decide +kernel
theorem dX5_write_40 : decode cX5_write 40 = .ok (.iaload, 1) := by decide +kernel
theorem dX5_write_41 : decode cX5_write 41 = .ok (.if_icmp .ge 20, 3) := by decide +kernel
theorem dX5_write_44 : decode cX5_write 44 = .ok (.aload_n 0, 1) := by decide +kernel
theorem dX5_write_45 : decode cX5_write 45 = .ok (.aload_n 1, 1) := by decide +kernel
theorem dX5_write_46 : decode cX5_write 46 = .ok (.getfield 42, 3) := by decide +kernel
theorem dX5_write_49 : decode cX5_write 49 = .ok (.iload_n 3, 1) := by decide +kernel
theorem dX5_write_50 : decode cX5_write 50 = .ok (.iaload, 1) := by decide +kernel
theorem dX5_write_51 : decode cX5_write 51 = .ok (.iconst 2, 1) := by decide +kernel
theorem dX5_write_52 : decode cX5_write 52 = .ok (.invokevirtual 27, 3) := by decide +kernel
theorem dX5_write_55 : decode cX5_write 55 = .ok (.iinc 3 1, 3) := by decide +kernel
theorem dX5_write_58 : decode cX5_write 58 = .ok (.goto (-24), 3) := by decide +kernel
theorem dX5_write_61 : decode cX5_write 61 = .ok (.iconst 0, 1) := by decide +kernel
theorem dX5_write_62 : decode cX5_write 62 = .ok (.istore_n 3, 1) := by decide +kernel
theorem dX5_write_63 : decode cX5_write 63 = .ok (.iload_n 3, 1) := by decide +kernel
theorem dX5_write_64 : decode cX5_write 64 = .ok (.aload_n 2, 1) := by decide +kernel
theorem dX5_write_65 : decode cX5_write 65 = .ok (.getfield 37, 3) := by decide +kernel
theorem dX5_write_68 : decode cX5_write 68 = .ok (.iconst 1, 1) := by decide +kernel
theorem dX5_write_69 : decode cX5_write 69 = .ok (.iaload, 1) := by decide +kernel
theorem dX5_write_70 : decode cX5_write 70 = .ok (.if_icmp .ge 31, 3) := by decide +kernel
theorem dX5_write_73 : decode cX5_write 73 = .ok (.aload_n 0, 1) := by decide +kernel
theorem dX5_write_74 : decode cX5_write 74 = .ok (.aload_n 1, 1) := by decide +kernel
theorem dX5_write_75 : decode cX5_write 75 = .ok (.getfield 45, 3) := by decide +kernel
theorem dX5_write_78 : decode cX5_write 78 = .ok (.iload_n 3, 1) := by decide +kernel
theorem dX5_write_79 : decode cX5_write 79 = .ok (.iaload, 1) := by decide +kernel
theorem dX5_write_80 : decode cX5_write 80 = .ok (.iconst 2, 1) := by decide +kernel
theorem dX5_write_81 : decode cX5_write 81 = .ok (.invokevirtual 27, 3) := by decide +kernel
theorem dX5_write_84 : decode cX5_write 84 = .ok (.aload_n 0, 1) := by decide +kernel
theorem dX5_write_85 : decode cX5_write 85 = .ok (.aload_n 1, 1) := by decide +kernel
theorem dX5_write_86 : decode cX5_write 86 = .ok (.getfield 48, 3) := by decide +kernel
theorem dX5_write_89 : decode cX5_write 89 = .ok (.iload_n 3, 1) := by decide +kernel
theorem dX5_write_90 : decode cX5_write 90 = .ok (.iaload, 1) := by decide +kernel
theorem dX5_write_91 : decode cX5_write 91 = .ok (.iconst 2, 1) := by decide +kernel
theorem dX5_write_92 : decode cX5_write 92 = .ok (.invokevirtual 27, 3) := by decide +kernel
theorem dX5_write_95 : decode cX5_write 95 = .ok (.iinc 3 1, 3) := by decide +kernel
theorem dX5_write_98 : decode cX5_write 98 = .ok (.goto (-35), 3) := by decide +kernel
theorem dX5_write_101 : decode cX5_write 101 = .ok (.iconst 0, 1) := by decide +kernel
theorem dX5_write_102 : decode cX5_write 102 = .ok (.istore_n 3, 1) := by decide +kernel
theorem dX5_write_103 : decode cX5_write 103 = .ok (.iload_n 3, 1) := by decide +kernel
theorem dX5_write_104 : decode cX5_write 104 = .ok (.aload_n 2, 1) := by decide +kernel
theorem dX5_write_105 : decode cX5_write 105 = .ok (.getfield 37, 3) := by decide +kernel
theorem dX5_write_108 : decode cX5_write 108 = .ok (.iconst 2, 1) := by decide +kernel
theorem dX5_write_109 : decode cX5_write 109 = .ok (.iaload, 1) := by decide +kernel
theorem dX5_write_110 : decode cX5_write 110 = .ok (.if_icmp .ge 20, 3) := by decide +kernel
theorem dX5_write_113 : decode cX5_write 113 = .ok (.aload_n 0, 1) := by decide +kernel
theorem dX5_write_114 : decode cX5_write 114 = .ok (.aload_n 1, 1) := by decide +kernel
theorem dX5_write_115 : decode cX5_write 115 = .ok (.getfield 51, 3) := by decide +kernel
theorem dX5_write_118 : decode cX5_write 118 = .ok (.iload_n 3, 1) := by decide +kernel
theorem dX5_write_119 : decode cX5_write 119 = .ok (.iaload, 1) := by decide +kernel
theorem dX5_write_120 : decode cX5_write 120 = .ok (.iconst 1, 1) := by decide +kernel
theorem dX5_write_121 : decode cX5_write 121 = .ok (.invokevirtual 27, 3) := by decide +kernel
theorem dX5_write_124 : decode cX5_write 124 = .ok (.iinc 3 1, 3) := by decide +kernel
theorem dX5_write_127 : decode cX5_write 127 = .ok (.goto (-24), 3) := by decide +kernel
theorem dX5_write_130 : decode cX5_write 130 = .ok (.bipush 97, 2) := by decide +kernel
theorem dX5_write_132 : decode cX5_write 132 = .ok (.istore_n 3, 1) := by decide +kernel
theorem dX5_write_133 : decode cX5_write 133 = .ok (.iconst 0, 1) := by decide +kernel
theorem dX5_write_134 : decode cX5_write 134 = .ok (.istore 4, 2) := by decide +kernel
theorem dX5_write_136 : decode cX5_write 136 = .ok (.iload 4, 2) := by decide +kernel
theorem dX5_write_138 : decode cX5_write 138 = .ok (.aload_n 0, 1) := by decide +kernel
theorem dX5_write_139 : decode cX5_write 139 = .ok (.getfield 15, 3) := by decide +kernel
theorem dX5_write_142 : decode cX5_write 142 = .ok (.if_icmp .ge 25, 3) := by decide +kernel
theorem dX5_write_145 : decode cX5_write 145 = .ok (.iconst 3, 1) := by decide +kernel
theorem dX5_write_146 : decode cX5_write 146 = .ok (.iload_n 3, 1) := by decide +kernel
theorem dX5_write_147 : decode cX5_write 147 = .ok (.imul, 1) := by decide +kernel
theorem dX5_write_148 : decode cX5_write 148 = .ok (.aload_n 0, 1) := by decide +kernel
theorem dX5_write_149 : decode cX5_write 149 = .ok (.getfield 11, 3) := by decide +kernel
theorem dX5_write_152 : decode cX5_write 152 = .ok (.iload 4, 2) := by decide +kernel
theorem dX5_write_154 : decode cX5_write 154 = .ok (.iaload, 1) := by decide +kernel
theorem dX5_write_155 : decode cX5_write 155 = .ok (.iadd, 1) := by decide +kernel
theorem dX5_write_156 : decode cX5_write 156 = .ok (.sipush 251, 3) := by decide +kernel
theorem dX5_write_159 : decode cX5_write 159 = .ok (.irem, 1) := by decide +kernel
theorem dX5_write_160 : decode cX5_write 160 = .ok (.istore_n 3, 1) := by decide +kernel
theorem dX5_write_161 : decode cX5_write 161 = .ok (.iinc 4 1, 3) := by decide +kernel
theorem dX5_write_164 : decode cX5_write 164 = .ok (.goto (-28), 3) := by decide +kernel
theorem dX5_write_167 : decode cX5_write 167 = .ok (.aload_n 0, 1) := by decide +kernel
theorem dX5_write_168 : decode cX5_write 168 = .ok (.iload_n 3, 1) := by decide +kernel
theorem dX5_write_169 : decode cX5_write 169 = .ok (.iconst 1, 1) := by decide +kernel
theorem dX5_write_170 : decode cX5_write 170 = .ok (.invokevirtual 27, 3) := by decide +kernel
theorem dX5_write_173 : decode cX5_write 173 = .ok (.return_, 1) := by decide +kernel
def f_X5_write_136 (a1 : Nat) (a2 : Nat) : Nat → Int32 → Int32 → Hp → Option Hp
  | 0, _, _, _ => none
  | k + 1, x3, x4, S => if (S.1 90 1) ≤ x4 then ob (f_X5_put x3 (1 : Int32) S) (fun S1 => some S1) else ldI S 91 48 x4 (fun v2 => le1 ((((3 : Int32) * x3) + v2) - (((3 : Int32) * x3) + v2) / (251 : Int32) * (251 : Int32)) (fun v3 => le1 (x4 + (1 : Int32)) (fun v4 => f_X5_write_136 a1 a2 k v3 v4 S)))
set_option maxHeartbeats 4000000 in
set_option maxRecDepth 100000 in
theorem w_X5_write_136 {p : Program} {l : Launch} {e : Env} {s : State} {m : MethodId} {args : Array Value} {below : List Frame} {meth : Method} {c : Code} {E : Ev} {S0 : Hp} {r : Hp} (C : ho_I p s m args meth c RX5 cX5_write 5 none) (a1 : Nat) (a2 : Nat) (ha1 : a1 ∈ yH.1 ∧ yH.2.1 a1 = (1, 9)) (ha2 : a2 ∈ yH.1 ∧ yH.2.1 a2 = (1, 2)) :
    ∀ (k : Nat) (x3 : Int32) (x4 : Int32) (S : Hp), f_X5_write_136 a1 a2 k x3 x4 S = some r → ho_G p l e s m args below meth c yH E S0 1 5 (none, r) 136 [(0, .ref (E.2.1 90)), (3, .int x3), (4, .int x4)] [] S := by
  intro k
  induction k with
  | zero =>
    intro x3 x4 S h
    exact absurd (show (none : Option Hp) = some r from h) (by simp)
  | succ k ih =>
    intro x3 x4 S h H locs ls hR hl
    rw [f_X5_write_136] at h
    refine lv_iload C.1 C.2.1 dX5_write_136 (lv_at hl 2 rfl) ?_
    refine lv_aload_n C.1 C.2.1 dX5_write_138 rfl (lv_at hl 0 rfl) ?_
    refine ho_getI C cf5 fH_RX5_15 hR aH_90 dX5_write_139 ?_
    refine lv_icmp_ge (tgt := 167) C.1 C.2.1 dX5_write_142 (by decide) (fun hc => ?_) (fun hc => ?_)
    · replace h := if_t h hc
      refine lv_aload_n C.1 C.2.1 dX5_write_167 rfl (lv_at hl 0 rfl) ?_
      refine lv_iload_n C.1 C.2.1 dX5_write_168 rfl (lv_at hl 1 rfl) ?_
      refine lv_iconst (v := (1 : Int32)) C.1 C.2.1 dX5_write_169 (by decide) ?_
      obtain ⟨S1, h1, h⟩ := ob_ok h
      refine hr_Vv (S' := S1) (As := [.int x3, .int (1 : Int32)]) (rest := []) C cf5 (c_X5_put l E x3 (1 : Int32) _ _ h1) yv_X5_put lk_RX5_27 rfl aH_90 rfl rfl hl.1 (Nat.le_of_ble_eq_true rfl) (by decide) (by decide) hR (ho_A hR) dX5_write_170 (fun H locs hR => ?_)
      exact ho_vret C hR h dX5_write_173
    · replace h := if_f h hc
      refine lv_iconst (v := (3 : Int32)) C.1 C.2.1 dX5_write_145 (by decide) ?_
      refine lv_iload_n C.1 C.2.1 dX5_write_146 rfl (lv_at hl 1 rfl) ?_
      refine lv_imul C.1 C.2.1 dX5_write_147 ?_
      refine lv_aload_n C.1 C.2.1 dX5_write_148 rfl (lv_at hl 0 rfl) ?_
      refine ho_getR (a' := 91) C cf5 fH_RX5_11 hR aH_90 rfl dX5_write_149 ?_
      refine lv_iload C.1 C.2.1 dX5_write_152 (lv_at hl 2 rfl) ?_
      obtain ⟨v2, e2, hi2, h⟩ := ldI_ok h
      refine hr_ild C hR aH_91 hi2 e2 dX5_write_154 ?_
      refine lv_iadd C.1 C.2.1 dX5_write_155 ?_
      refine lv_sipush (v := (251 : Int32)) C.1 C.2.1 dX5_write_156 (by decide) ?_
      refine lv_irem C.1 C.2.1 dX5_write_159 (by decide) ?_
      refine lv_topi (fun v3 e3 => ?_)
      replace h := le1_at e3 h
      refine lv_istore_n (lv' := [(3, .int v3), (0, .ref (E.2.1 90)), (4, .int x4)]) C.1 C.2.1 dX5_write_160 rfl hl (by decide) rfl (fun ls hl => ?_)
      obtain ⟨v4, e4, h⟩ := le1_ok h
      refine lv_iinc (v := v4) (lv' := [(4, .int v4), (3, .int v3), (0, .ref (E.2.1 90))]) C.1 C.2.1 dX5_write_161 hl (k := 2) rfl (by rw [e4]; rfl) (by decide) rfl (fun ls hl => ?_)
      refine lv_goto (tgt := 136) C.1 C.2.1 dX5_write_164 (by decide) ?_
      exact ih v3 v4 S h _ _ _ hR (lv_sub hl [2, 1, 0] rfl)
def f_X5_write_103 (a1 : Nat) (a2 : Nat) : Nat → Int32 → Hp → Option Hp
  | 0, _, _ => none
  | k + 1, x3, S => ldI S (a2 + 1) 3 (2 : Int32) (fun v1 => if v1 ≤ x3 then f_X5_write_136 a1 a2 5000 (97 : Int32) (0 : Int32) S else ldI S (a1 + 4) 5 x3 (fun v2 => ob (f_X5_put v2 (1 : Int32) S) (fun S3 => le1 (x3 + (1 : Int32)) (fun v4 => f_X5_write_103 a1 a2 k v4 S3))))
set_option maxHeartbeats 4000000 in
set_option maxRecDepth 100000 in
theorem w_X5_write_103 {p : Program} {l : Launch} {e : Env} {s : State} {m : MethodId} {args : Array Value} {below : List Frame} {meth : Method} {c : Code} {E : Ev} {S0 : Hp} {r : Hp} (C : ho_I p s m args meth c RX5 cX5_write 5 none) (a1 : Nat) (a2 : Nat) (ha1 : a1 ∈ yH.1 ∧ yH.2.1 a1 = (1, 9)) (ha2 : a2 ∈ yH.1 ∧ yH.2.1 a2 = (1, 2)) :
    ∀ (k : Nat) (x3 : Int32) (S : Hp), f_X5_write_103 a1 a2 k x3 S = some r → ho_G p l e s m args below meth c yH E S0 1 5 (none, r) 103 [(0, .ref (E.2.1 90)), (1, .ref (E.2.1 a1)), (2, .ref (E.2.1 a2)), (3, .int x3)] [] S := by
  intro k
  induction k with
  | zero =>
    intro x3 S h
    exact absurd (show (none : Option Hp) = some r from h) (by simp)
  | succ k ih =>
    intro x3 S h H locs ls hR hl
    rw [f_X5_write_103] at h
    refine lv_iload_n C.1 C.2.1 dX5_write_103 rfl (lv_at hl 3 rfl) ?_
    refine lv_aload_n C.1 C.2.1 dX5_write_104 rfl (lv_at hl 2 rfl) ?_
    refine ho_getR (a' := (a2 + 1)) C cf2 fH_RX5_37 hR ha2 (pH_2_5 ha2.2) dX5_write_105 ?_
    refine lv_iconst (v := (2 : Int32)) C.1 C.2.1 dX5_write_108 (by decide) ?_
    obtain ⟨v1, e1, hi1, h⟩ := ldI_ok h
    refine hr_ild C hR (rH_2_1 ha2) hi1 e1 dX5_write_109 ?_
    refine lv_icmp_ge (tgt := 130) C.1 C.2.1 dX5_write_110 (by decide) (fun hc => ?_) (fun hc => ?_)
    · replace h := if_t h hc
      refine lv_bipush (v := (97 : Int32)) C.1 C.2.1 dX5_write_130 (by decide) ?_
      refine lv_istore_n (lv' := [(3, .int (97 : Int32)), (0, .ref (E.2.1 90)), (1, .ref (E.2.1 a1)), (2, .ref (E.2.1 a2))]) C.1 C.2.1 dX5_write_132 rfl hl (by decide) rfl (fun ls hl => ?_)
      refine lv_iconst (v := (0 : Int32)) C.1 C.2.1 dX5_write_133 (by decide) ?_
      refine lv_istore (lv' := [(4, .int (0 : Int32)), (3, .int (97 : Int32)), (0, .ref (E.2.1 90)), (1, .ref (E.2.1 a1)), (2, .ref (E.2.1 a2))]) C.1 C.2.1 dX5_write_134 hl (by decide) rfl (fun ls hl => ?_)
      exact w_X5_write_136 C a1 a2 ha1 ha2 5000 (97 : Int32) (0 : Int32) S h _ _ _ hR (lv_sub hl [2, 1, 0] rfl)
    · replace h := if_f h hc
      refine lv_aload_n C.1 C.2.1 dX5_write_113 rfl (lv_at hl 0 rfl) ?_
      refine lv_aload_n C.1 C.2.1 dX5_write_114 rfl (lv_at hl 1 rfl) ?_
      refine ho_getR (a' := (a1 + 4)) C cf9 fH_RX5_51 hR ha1 (pH_9_6 ha1.2) dX5_write_115 ?_
      refine lv_iload_n C.1 C.2.1 dX5_write_118 rfl (lv_at hl 3 rfl) ?_
      obtain ⟨v2, e2, hi2, h⟩ := ldI_ok h
      refine hr_ild C hR (rH_9_4 ha1) hi2 e2 dX5_write_119 ?_
      refine lv_iconst (v := (1 : Int32)) C.1 C.2.1 dX5_write_120 (by decide) ?_
      obtain ⟨S3, h3, h⟩ := ob_ok h
      refine hr_Vv (S' := S3) (As := [.int v2, .int (1 : Int32)]) (rest := []) C cf5 (c_X5_put l E v2 (1 : Int32) _ _ h3) yv_X5_put lk_RX5_27 rfl aH_90 rfl rfl hl.1 (Nat.le_of_ble_eq_true rfl) (by decide) (by decide) hR (ho_A hR) dX5_write_121 (fun H locs hR => ?_)
      obtain ⟨v4, e4, h⟩ := le1_ok h
      refine lv_iinc (v := v4) (lv' := [(3, .int v4), (0, .ref (E.2.1 90)), (1, .ref (E.2.1 a1)), (2, .ref (E.2.1 a2))]) C.1 C.2.1 dX5_write_124 hl (k := 3) rfl (by rw [e4]; rfl) (by decide) rfl (fun ls hl => ?_)
      refine lv_goto (tgt := 103) C.1 C.2.1 dX5_write_127 (by decide) ?_
      exact ih v4 S3 h _ _ _ hR (lv_sub hl [1, 2, 3, 0] rfl)
def f_X5_write_63 (a1 : Nat) (a2 : Nat) : Nat → Int32 → Hp → Option Hp
  | 0, _, _ => none
  | k + 1, x3, S => ldI S (a2 + 1) 3 (1 : Int32) (fun v1 => if v1 ≤ x3 then f_X5_write_103 a1 a2 5000 (0 : Int32) S else ldI S (a1 + 2) 6 x3 (fun v2 => ob (f_X5_put v2 (2 : Int32) S) (fun S3 => ldI S3 (a1 + 3) 6 x3 (fun v4 => ob (f_X5_put v4 (2 : Int32) S3) (fun S5 => le1 (x3 + (1 : Int32)) (fun v6 => f_X5_write_63 a1 a2 k v6 S5))))))
set_option maxHeartbeats 4000000 in
set_option maxRecDepth 100000 in
theorem w_X5_write_63 {p : Program} {l : Launch} {e : Env} {s : State} {m : MethodId} {args : Array Value} {below : List Frame} {meth : Method} {c : Code} {E : Ev} {S0 : Hp} {r : Hp} (C : ho_I p s m args meth c RX5 cX5_write 5 none) (a1 : Nat) (a2 : Nat) (ha1 : a1 ∈ yH.1 ∧ yH.2.1 a1 = (1, 9)) (ha2 : a2 ∈ yH.1 ∧ yH.2.1 a2 = (1, 2)) :
    ∀ (k : Nat) (x3 : Int32) (S : Hp), f_X5_write_63 a1 a2 k x3 S = some r → ho_G p l e s m args below meth c yH E S0 1 5 (none, r) 63 [(0, .ref (E.2.1 90)), (1, .ref (E.2.1 a1)), (2, .ref (E.2.1 a2)), (3, .int x3)] [] S := by
  intro k
  induction k with
  | zero =>
    intro x3 S h
    exact absurd (show (none : Option Hp) = some r from h) (by simp)
  | succ k ih =>
    intro x3 S h H locs ls hR hl
    rw [f_X5_write_63] at h
    refine lv_iload_n C.1 C.2.1 dX5_write_63 rfl (lv_at hl 3 rfl) ?_
    refine lv_aload_n C.1 C.2.1 dX5_write_64 rfl (lv_at hl 2 rfl) ?_
    refine ho_getR (a' := (a2 + 1)) C cf2 fH_RX5_37 hR ha2 (pH_2_5 ha2.2) dX5_write_65 ?_
    refine lv_iconst (v := (1 : Int32)) C.1 C.2.1 dX5_write_68 (by decide) ?_
    obtain ⟨v1, e1, hi1, h⟩ := ldI_ok h
    refine hr_ild C hR (rH_2_1 ha2) hi1 e1 dX5_write_69 ?_
    refine lv_icmp_ge (tgt := 101) C.1 C.2.1 dX5_write_70 (by decide) (fun hc => ?_) (fun hc => ?_)
    · replace h := if_t h hc
      refine lv_iconst (v := (0 : Int32)) C.1 C.2.1 dX5_write_101 (by decide) ?_
      refine lv_istore_n (lv' := [(3, .int (0 : Int32)), (0, .ref (E.2.1 90)), (1, .ref (E.2.1 a1)), (2, .ref (E.2.1 a2))]) C.1 C.2.1 dX5_write_102 rfl hl (by decide) rfl (fun ls hl => ?_)
      exact w_X5_write_103 C a1 a2 ha1 ha2 5000 (0 : Int32) S h _ _ _ hR (lv_sub hl [1, 2, 3, 0] rfl)
    · replace h := if_f h hc
      refine lv_aload_n C.1 C.2.1 dX5_write_73 rfl (lv_at hl 0 rfl) ?_
      refine lv_aload_n C.1 C.2.1 dX5_write_74 rfl (lv_at hl 1 rfl) ?_
      refine ho_getR (a' := (a1 + 2)) C cf9 fH_RX5_45 hR ha1 (pH_9_4 ha1.2) dX5_write_75 ?_
      refine lv_iload_n C.1 C.2.1 dX5_write_78 rfl (lv_at hl 3 rfl) ?_
      obtain ⟨v2, e2, hi2, h⟩ := ldI_ok h
      refine hr_ild C hR (rH_9_2 ha1) hi2 e2 dX5_write_79 ?_
      refine lv_iconst (v := (2 : Int32)) C.1 C.2.1 dX5_write_80 (by decide) ?_
      obtain ⟨S3, h3, h⟩ := ob_ok h
      refine hr_Vv (S' := S3) (As := [.int v2, .int (2 : Int32)]) (rest := []) C cf5 (c_X5_put l E v2 (2 : Int32) _ _ h3) yv_X5_put lk_RX5_27 rfl aH_90 rfl rfl hl.1 (Nat.le_of_ble_eq_true rfl) (by decide) (by decide) hR (ho_A hR) dX5_write_81 (fun H locs hR => ?_)
      refine lv_aload_n C.1 C.2.1 dX5_write_84 rfl (lv_at hl 0 rfl) ?_
      refine lv_aload_n C.1 C.2.1 dX5_write_85 rfl (lv_at hl 1 rfl) ?_
      refine ho_getR (a' := (a1 + 3)) C cf9 fH_RX5_48 hR ha1 (pH_9_5 ha1.2) dX5_write_86 ?_
      refine lv_iload_n C.1 C.2.1 dX5_write_89 rfl (lv_at hl 3 rfl) ?_
      obtain ⟨v4, e4, hi4, h⟩ := ldI_ok h
      refine hr_ild C hR (rH_9_3 ha1) hi4 e4 dX5_write_90 ?_
      refine lv_iconst (v := (2 : Int32)) C.1 C.2.1 dX5_write_91 (by decide) ?_
      obtain ⟨S5, h5, h⟩ := ob_ok h
      refine hr_Vv (S' := S5) (As := [.int v4, .int (2 : Int32)]) (rest := []) C cf5 (c_X5_put l E v4 (2 : Int32) _ _ h5) yv_X5_put lk_RX5_27 rfl aH_90 rfl rfl hl.1 (Nat.le_of_ble_eq_true rfl) (by decide) (by decide) hR (ho_A hR) dX5_write_92 (fun H locs hR => ?_)
      obtain ⟨v6, e6, h⟩ := le1_ok h
      refine lv_iinc (v := v6) (lv' := [(3, .int v6), (0, .ref (E.2.1 90)), (1, .ref (E.2.1 a1)), (2, .ref (E.2.1 a2))]) C.1 C.2.1 dX5_write_95 hl (k := 3) rfl (by rw [e6]; rfl) (by decide) rfl (fun ls hl => ?_)
      refine lv_goto (tgt := 63) C.1 C.2.1 dX5_write_98 (by decide) ?_
      exact ih v6 S5 h _ _ _ hR (lv_sub hl [1, 2, 3, 0] rfl)
def f_X5_write_34 (a1 : Nat) (a2 : Nat) : Nat → Int32 → Hp → Option Hp
  | 0, _, _ => none
  | k + 1, x3, S => ldI S (a2 + 1) 3 (0 : Int32) (fun v1 => if v1 ≤ x3 then f_X5_write_63 a1 a2 5000 (0 : Int32) S else ldI S (a1 + 1) 6 x3 (fun v2 => ob (f_X5_put v2 (2 : Int32) S) (fun S3 => le1 (x3 + (1 : Int32)) (fun v4 => f_X5_write_34 a1 a2 k v4 S3))))
set_option maxHeartbeats 4000000 in
set_option maxRecDepth 100000 in
theorem w_X5_write_34 {p : Program} {l : Launch} {e : Env} {s : State} {m : MethodId} {args : Array Value} {below : List Frame} {meth : Method} {c : Code} {E : Ev} {S0 : Hp} {r : Hp} (C : ho_I p s m args meth c RX5 cX5_write 5 none) (a1 : Nat) (a2 : Nat) (ha1 : a1 ∈ yH.1 ∧ yH.2.1 a1 = (1, 9)) (ha2 : a2 ∈ yH.1 ∧ yH.2.1 a2 = (1, 2)) :
    ∀ (k : Nat) (x3 : Int32) (S : Hp), f_X5_write_34 a1 a2 k x3 S = some r → ho_G p l e s m args below meth c yH E S0 1 5 (none, r) 34 [(0, .ref (E.2.1 90)), (1, .ref (E.2.1 a1)), (2, .ref (E.2.1 a2)), (3, .int x3)] [] S := by
  intro k
  induction k with
  | zero =>
    intro x3 S h
    exact absurd (show (none : Option Hp) = some r from h) (by simp)
  | succ k ih =>
    intro x3 S h H locs ls hR hl
    rw [f_X5_write_34] at h
    refine lv_iload_n C.1 C.2.1 dX5_write_34 rfl (lv_at hl 3 rfl) ?_
    refine lv_aload_n C.1 C.2.1 dX5_write_35 rfl (lv_at hl 2 rfl) ?_
    refine ho_getR (a' := (a2 + 1)) C cf2 fH_RX5_37 hR ha2 (pH_2_5 ha2.2) dX5_write_36 ?_
    refine lv_iconst (v := (0 : Int32)) C.1 C.2.1 dX5_write_39 (by decide) ?_
    obtain ⟨v1, e1, hi1, h⟩ := ldI_ok h
    refine hr_ild C hR (rH_2_1 ha2) hi1 e1 dX5_write_40 ?_
    refine lv_icmp_ge (tgt := 61) C.1 C.2.1 dX5_write_41 (by decide) (fun hc => ?_) (fun hc => ?_)
    · replace h := if_t h hc
      refine lv_iconst (v := (0 : Int32)) C.1 C.2.1 dX5_write_61 (by decide) ?_
      refine lv_istore_n (lv' := [(3, .int (0 : Int32)), (0, .ref (E.2.1 90)), (1, .ref (E.2.1 a1)), (2, .ref (E.2.1 a2))]) C.1 C.2.1 dX5_write_62 rfl hl (by decide) rfl (fun ls hl => ?_)
      exact w_X5_write_63 C a1 a2 ha1 ha2 5000 (0 : Int32) S h _ _ _ hR (lv_sub hl [1, 2, 3, 0] rfl)
    · replace h := if_f h hc
      refine lv_aload_n C.1 C.2.1 dX5_write_44 rfl (lv_at hl 0 rfl) ?_
      refine lv_aload_n C.1 C.2.1 dX5_write_45 rfl (lv_at hl 1 rfl) ?_
      refine ho_getR (a' := (a1 + 1)) C cf9 fH_RX5_42 hR ha1 (pH_9_3 ha1.2) dX5_write_46 ?_
      refine lv_iload_n C.1 C.2.1 dX5_write_49 rfl (lv_at hl 3 rfl) ?_
      obtain ⟨v2, e2, hi2, h⟩ := ldI_ok h
      refine hr_ild C hR (rH_9_1 ha1) hi2 e2 dX5_write_50 ?_
      refine lv_iconst (v := (2 : Int32)) C.1 C.2.1 dX5_write_51 (by decide) ?_
      obtain ⟨S3, h3, h⟩ := ob_ok h
      refine hr_Vv (S' := S3) (As := [.int v2, .int (2 : Int32)]) (rest := []) C cf5 (c_X5_put l E v2 (2 : Int32) _ _ h3) yv_X5_put lk_RX5_27 rfl aH_90 rfl rfl hl.1 (Nat.le_of_ble_eq_true rfl) (by decide) (by decide) hR (ho_A hR) dX5_write_52 (fun H locs hR => ?_)
      obtain ⟨v4, e4, h⟩ := le1_ok h
      refine lv_iinc (v := v4) (lv' := [(3, .int v4), (0, .ref (E.2.1 90)), (1, .ref (E.2.1 a1)), (2, .ref (E.2.1 a2))]) C.1 C.2.1 dX5_write_55 hl (k := 3) rfl (by rw [e4]; rfl) (by decide) rfl (fun ls hl => ?_)
      refine lv_goto (tgt := 34) C.1 C.2.1 dX5_write_58 (by decide) ?_
      exact ih v4 S3 h _ _ _ hR (lv_sub hl [1, 2, 3, 0] rfl)
def f_X5_write (a1 : Nat) (a2 : Nat) (S : Hp) : Option Hp :=
  le1 (ho_sI S 90 1 (0 : Int32)) (fun S1 => ob (f_X5_put (S1.1 a1 0) (2 : Int32) S1) (fun S2 => ob (f_X5_put (S2.1 a1 1) (3 : Int32) S2) (fun S3 => ob (f_X5_put (S3.1 a1 2) (1 : Int32) S3) (fun S4 => f_X5_write_34 a1 a2 5000 (0 : Int32) S4))))
set_option maxHeartbeats 4000000 in
set_option maxRecDepth 100000 in
theorem c_X5_write (l : Launch) (E : Ev) (a1 : Nat) (a2 : Nat) (ha1 : a1 ∈ yH.1 ∧ yH.2.1 a1 = (1, 9)) (ha2 : a2 ∈ yH.1 ∧ yH.2.1 a2 = (1, 2)) (S : Hp) (r : Hp) (h : f_X5_write a1 a2 S = some r) : ho_M l yH E yX5_write cX5_write 5 none 1 [.ref (E.2.1 90), .ref (E.2.1 a1), .ref (E.2.1 a2)] S (none, r) := by
  refine ho_in (by decide) (Nat.le_of_ble_eq_true rfl) ?_
  intro p e s m args below meth c C hR ls hl
  have C : ho_I p s m args meth c RX5 cX5_write 5 none := C
  have hl : lv_has ls 5 [(0, .ref (E.2.1 90)), (1, .ref (E.2.1 a1)), (2, .ref (E.2.1 a2))] := hl
  unfold f_X5_write at h
  refine lv_aload_n C.1 C.2.1 dX5_write_0 rfl (lv_at hl 0 rfl) ?_
  refine lv_iconst (v := (0 : Int32)) C.1 C.2.1 dX5_write_1 (by decide) ?_
  obtain ⟨S1, e1, h⟩ := le1_ok h
  refine hr_putI C cf5 fH_RX5_15 hR aH_90 e1 dX5_write_2 (fun H locs hR => ?_)
  refine lv_aload_n C.1 C.2.1 dX5_write_5 rfl (lv_at hl 0 rfl) ?_
  refine lv_aload_n C.1 C.2.1 dX5_write_6 rfl (lv_at hl 1 rfl) ?_
  refine ho_getI C cf9 fH_RX5_22 hR ha1 dX5_write_7 ?_
  refine lv_iconst (v := (2 : Int32)) C.1 C.2.1 dX5_write_10 (by decide) ?_
  obtain ⟨S2, h2, h⟩ := ob_ok h
  refine hr_Vv (S' := S2) (As := [.int (S1.1 a1 0), .int (2 : Int32)]) (rest := []) C cf5 (c_X5_put l E (S1.1 a1 0) (2 : Int32) _ _ h2) yv_X5_put lk_RX5_27 rfl aH_90 rfl rfl hl.1 (Nat.le_of_ble_eq_true rfl) (by decide) (by decide) hR (ho_A hR) dX5_write_11 (fun H locs hR => ?_)
  refine lv_aload_n C.1 C.2.1 dX5_write_14 rfl (lv_at hl 0 rfl) ?_
  refine lv_aload_n C.1 C.2.1 dX5_write_15 rfl (lv_at hl 1 rfl) ?_
  refine ho_getI C cf9 fH_RX5_31 hR ha1 dX5_write_16 ?_
  refine lv_iconst (v := (3 : Int32)) C.1 C.2.1 dX5_write_19 (by decide) ?_
  obtain ⟨S3, h3, h⟩ := ob_ok h
  refine hr_Vv (S' := S3) (As := [.int (S2.1 a1 1), .int (3 : Int32)]) (rest := []) C cf5 (c_X5_put l E (S2.1 a1 1) (3 : Int32) _ _ h3) yv_X5_put lk_RX5_27 rfl aH_90 rfl rfl hl.1 (Nat.le_of_ble_eq_true rfl) (by decide) (by decide) hR (ho_A hR) dX5_write_20 (fun H locs hR => ?_)
  refine lv_aload_n C.1 C.2.1 dX5_write_23 rfl (lv_at hl 0 rfl) ?_
  refine lv_aload_n C.1 C.2.1 dX5_write_24 rfl (lv_at hl 1 rfl) ?_
  refine ho_getI C cf9 fH_RX5_34 hR ha1 dX5_write_25 ?_
  refine lv_iconst (v := (1 : Int32)) C.1 C.2.1 dX5_write_28 (by decide) ?_
  obtain ⟨S4, h4, h⟩ := ob_ok h
  refine hr_Vv (S' := S4) (As := [.int (S3.1 a1 2), .int (1 : Int32)]) (rest := []) C cf5 (c_X5_put l E (S3.1 a1 2) (1 : Int32) _ _ h4) yv_X5_put lk_RX5_27 rfl aH_90 rfl rfl hl.1 (Nat.le_of_ble_eq_true rfl) (by decide) (by decide) hR (ho_A hR) dX5_write_29 (fun H locs hR => ?_)
  refine lv_iconst (v := (0 : Int32)) C.1 C.2.1 dX5_write_32 (by decide) ?_
  refine lv_istore_n (lv' := [(3, .int (0 : Int32)), (0, .ref (E.2.1 90)), (1, .ref (E.2.1 a1)), (2, .ref (E.2.1 a2))]) C.1 C.2.1 dX5_write_33 rfl hl (by decide) rfl (fun ls hl => ?_)
  exact w_X5_write_34 C a1 a2 ha1 ha2 5000 (0 : Int32) S4 h _ _ _ hR (lv_sub hl [1, 2, 3, 0] rfl)
theorem dX5_isChecked_0 : decode cX5_isChecked 0 = .ok (.bipush 97, 2) := by decide +kernel
theorem dX5_isChecked_2 : decode cX5_isChecked 2 = .ok (.istore_n 1, 1) := by decide +kernel
theorem dX5_isChecked_3 : decode cX5_isChecked 3 = .ok (.iconst 0, 1) := by decide +kernel
theorem dX5_isChecked_4 : decode cX5_isChecked 4 = .ok (.istore_n 2, 1) := by decide +kernel
theorem dX5_isChecked_5 : decode cX5_isChecked 5 = .ok (.iload_n 2, 1) := by decide +kernel
theorem dX5_isChecked_6 : decode cX5_isChecked 6 = .ok (.aload_n 0, 1) := by decide +kernel
theorem dX5_isChecked_7 : decode cX5_isChecked 7 = .ok (.getfield 54, 3) := by decide +kernel
theorem dX5_isChecked_10 : decode cX5_isChecked 10 = .ok (.iconst 1, 1) := by decide +kernel
theorem dX5_isChecked_11 : decode cX5_isChecked 11 = .ok (.isub, 1) := by decide +kernel
theorem dX5_isChecked_12 : decode cX5_isChecked 12 = .ok (.if_icmp .ge 23, 3) := by decide +kernel
theorem dX5_isChecked_15 : decode cX5_isChecked 15 = .ok (.iconst 3, 1) := by decide +kernel
theorem dX5_isChecked_16 : decode cX5_isChecked 16 = .ok (.iload_n 1, 1) := by decide +kernel
theorem dX5_isChecked_17 : decode cX5_isChecked 17 = .ok (.imul, 1) := by decide +kernel
theorem dX5_isChecked_18 : decode cX5_isChecked 18 = .ok (.aload_n 0, 1) := by decide +kernel
theorem dX5_isChecked_19 : decode cX5_isChecked 19 = .ok (.iload_n 2, 1) := by decide +kernel
theorem dX5_isChecked_20 : decode cX5_isChecked 20 = .ok (.invokevirtual 69, 3) := by decide +kernel
theorem dX5_isChecked_23 : decode cX5_isChecked 23 = .ok (.iadd, 1) := by decide +kernel
theorem dX5_isChecked_24 : decode cX5_isChecked 24 = .ok (.sipush 251, 3) := by decide +kernel
theorem dX5_isChecked_27 : decode cX5_isChecked 27 = .ok (.irem, 1) := by decide +kernel
theorem dX5_isChecked_28 : decode cX5_isChecked 28 = .ok (.istore_n 1, 1) := by decide +kernel
theorem dX5_isChecked_29 : decode cX5_isChecked 29 = .ok (.iinc 2 1, 3) := by decide +kernel
theorem dX5_isChecked_32 : decode cX5_isChecked 32 = .ok (.goto (-27), 3) := by decide +kernel
theorem dX5_isChecked_35 : decode cX5_isChecked 35 = .ok (.iload_n 1, 1) := by decide +kernel
theorem dX5_isChecked_36 : decode cX5_isChecked 36 = .ok (.aload_n 0, 1) := by decide +kernel
theorem dX5_isChecked_37 : decode cX5_isChecked 37 = .ok (.aload_n 0, 1) := by decide +kernel
theorem dX5_isChecked_38 : decode cX5_isChecked 38 = .ok (.getfield 54, 3) := by decide +kernel
theorem dX5_isChecked_41 : decode cX5_isChecked 41 = .ok (.iconst 1, 1) := by decide +kernel
theorem dX5_isChecked_42 : decode cX5_isChecked 42 = .ok (.isub, 1) := by decide +kernel
theorem dX5_isChecked_43 : decode cX5_isChecked 43 = .ok (.invokevirtual 69, 3) := by decide +kernel
theorem dX5_isChecked_46 : decode cX5_isChecked 46 = .ok (.if_icmp .ne 7, 3) := by decide +kernel
theorem dX5_isChecked_49 : decode cX5_isChecked 49 = .ok (.iconst 1, 1) := by decide +kernel
theorem dX5_isChecked_50 : decode cX5_isChecked 50 = .ok (.goto 4, 3) := by decide +kernel
theorem dX5_isChecked_53 : decode cX5_isChecked 53 = .ok (.iconst 0, 1) := by decide +kernel
theorem dX5_isChecked_54 : decode cX5_isChecked 54 = .ok (.ireturn, 1) := by decide +kernel
def f_X5_isChecked_5 : Nat → Int32 → Int32 → Hp → Option (Int32 × Hp)
  | 0, _, _, _ => none
  | k + 1, x1, x2, S => if ((S.1 10 1) - (1 : Int32)) ≤ x2 then ob2 (f_X10_byteAt ((S.1 10 1) - (1 : Int32)) S) (fun r1 S1 => if x1 = r1 then some ((1 : Int32), S1) else some ((0 : Int32), S1)) else ob2 (f_X10_byteAt x2 S) (fun r2 S2 => le1 ((((3 : Int32) * x1) + r2) - (((3 : Int32) * x1) + r2) / (251 : Int32) * (251 : Int32)) (fun v3 => le1 (x2 + (1 : Int32)) (fun v4 => f_X5_isChecked_5 k v3 v4 S2)))
set_option maxHeartbeats 4000000 in
set_option maxRecDepth 100000 in
theorem w_X5_isChecked_5 {p : Program} {l : Launch} {e : Env} {s : State} {m : MethodId} {args : Array Value} {below : List Frame} {meth : Method} {c : Code} {E : Ev} {S0 : Hp} {r : (Int32 × Hp)} (C : ho_I p s m args meth c RX5 cX5_isChecked 3 (some .boolean)) :
    ∀ (k : Nat) (x1 : Int32) (x2 : Int32) (S : Hp), f_X5_isChecked_5 k x1 x2 S = some r → ho_G p l e s m args below meth c yH E S0 1 3 (some (.int r.1), r.2) 5 [(0, .ref (E.2.1 10)), (1, .int x1), (2, .int x2)] [] S := by
  intro k
  induction k with
  | zero =>
    intro x1 x2 S h
    exact absurd (show (none : Option (Int32 × Hp)) = some r from h) (by simp)
  | succ k ih =>
    intro x1 x2 S h H locs ls hR hl
    rw [f_X5_isChecked_5] at h
    refine lv_iload_n C.1 C.2.1 dX5_isChecked_5 rfl (lv_at hl 2 rfl) ?_
    refine lv_aload_n C.1 C.2.1 dX5_isChecked_6 rfl (lv_at hl 0 rfl) ?_
    refine ho_getI C cf10 fH_RX5_54 hR aH_10 dX5_isChecked_7 ?_
    refine lv_iconst (v := (1 : Int32)) C.1 C.2.1 dX5_isChecked_10 (by decide) ?_
    refine lv_isub C.1 C.2.1 dX5_isChecked_11 ?_
    refine lv_icmp_ge (tgt := 35) C.1 C.2.1 dX5_isChecked_12 (by decide) (fun hc => ?_) (fun hc => ?_)
    · replace h := if_t h hc
      refine lv_iload_n C.1 C.2.1 dX5_isChecked_35 rfl (lv_at hl 1 rfl) ?_
      refine lv_aload_n C.1 C.2.1 dX5_isChecked_36 rfl (lv_at hl 0 rfl) ?_
      refine lv_aload_n C.1 C.2.1 dX5_isChecked_37 rfl (lv_at hl 0 rfl) ?_
      refine ho_getI C cf10 fH_RX5_54 hR aH_10 dX5_isChecked_38 ?_
      refine lv_iconst (v := (1 : Int32)) C.1 C.2.1 dX5_isChecked_41 (by decide) ?_
      refine lv_isub C.1 C.2.1 dX5_isChecked_42 ?_
      obtain ⟨r1, S1, h1, h⟩ := ob2_ok h
      refine hr_Vi (v := r1) (S' := S1) (As := [.int ((S.1 10 1) - (1 : Int32))]) (rest := [.int x1]) C cf10 (c_X10_byteAt l E ((S.1 10 1) - (1 : Int32)) _ _ h1) yv_X10_byteAt lk_RX5_69 rfl aH_10 rfl rfl hl.1 (Nat.le_of_ble_eq_true rfl) (by decide) (by decide) hR (ho_A hR) dX5_isChecked_43 (fun H locs hR => ?_)
      refine lv_icmp_ne (tgt := 53) C.1 C.2.1 dX5_isChecked_46 (by decide) (fun hc => ?_) (fun hc => ?_)
      · replace h := if_f h hc
        refine lv_iconst (v := (0 : Int32)) C.1 C.2.1 dX5_isChecked_53 (by decide) ?_
        exact ho_zret C hR (Or.inl rfl) h dX5_isChecked_54
      · replace h := if_t h hc
        refine lv_iconst (v := (1 : Int32)) C.1 C.2.1 dX5_isChecked_49 (by decide) ?_
        refine lv_goto (tgt := 54) C.1 C.2.1 dX5_isChecked_50 (by decide) ?_
        exact ho_zret C hR (Or.inr rfl) h dX5_isChecked_54
    · replace h := if_f h hc
      refine lv_iconst (v := (3 : Int32)) C.1 C.2.1 dX5_isChecked_15 (by decide) ?_
      refine lv_iload_n C.1 C.2.1 dX5_isChecked_16 rfl (lv_at hl 1 rfl) ?_
      refine lv_imul C.1 C.2.1 dX5_isChecked_17 ?_
      refine lv_aload_n C.1 C.2.1 dX5_isChecked_18 rfl (lv_at hl 0 rfl) ?_
      refine lv_iload_n C.1 C.2.1 dX5_isChecked_19 rfl (lv_at hl 2 rfl) ?_
      obtain ⟨r2, S2, h2, h⟩ := ob2_ok h
      refine hr_Vi (v := r2) (S' := S2) (As := [.int x2]) (rest := [.int ((3 : Int32) * x1)]) C cf10 (c_X10_byteAt l E x2 _ _ h2) yv_X10_byteAt lk_RX5_69 rfl aH_10 rfl rfl hl.1 (Nat.le_of_ble_eq_true rfl) (by decide) (by decide) hR (ho_A hR) dX5_isChecked_20 (fun H locs hR => ?_)
      refine lv_iadd C.1 C.2.1 dX5_isChecked_23 ?_
      refine lv_sipush (v := (251 : Int32)) C.1 C.2.1 dX5_isChecked_24 (by decide) ?_
      refine lv_irem C.1 C.2.1 dX5_isChecked_27 (by decide) ?_
      refine lv_topi (fun v3 e3 => ?_)
      replace h := le1_at e3 h
      refine lv_istore_n (lv' := [(1, .int v3), (0, .ref (E.2.1 10)), (2, .int x2)]) C.1 C.2.1 dX5_isChecked_28 rfl hl (by decide) rfl (fun ls hl => ?_)
      obtain ⟨v4, e4, h⟩ := le1_ok h
      refine lv_iinc (v := v4) (lv' := [(2, .int v4), (1, .int v3), (0, .ref (E.2.1 10))]) C.1 C.2.1 dX5_isChecked_29 hl (k := 2) rfl (by rw [e4]; rfl) (by decide) rfl (fun ls hl => ?_)
      refine lv_goto (tgt := 5) C.1 C.2.1 dX5_isChecked_32 (by decide) ?_
      exact ih v3 v4 S2 h _ _ _ hR (lv_sub hl [2, 1, 0] rfl)
def f_X5_isChecked (S : Hp) : Option (Int32 × Hp) :=
  f_X5_isChecked_5 5000 (97 : Int32) (0 : Int32) S
set_option maxHeartbeats 4000000 in
set_option maxRecDepth 100000 in
theorem c_X5_isChecked (l : Launch) (E : Ev) (S : Hp) (r : (Int32 × Hp)) (h : f_X5_isChecked S = some r) : ho_M l yH E yX5_isChecked cX5_isChecked 3 (some .boolean) 1 [.ref (E.2.1 10)] S (some (.int r.1), r.2) := by
  refine ho_in (by decide) (Nat.le_of_ble_eq_true rfl) ?_
  intro p e s m args below meth c C hR ls hl
  have C : ho_I p s m args meth c RX5 cX5_isChecked 3 (some .boolean) := C
  have hl : lv_has ls 3 [(0, .ref (E.2.1 10))] := hl
  unfold f_X5_isChecked at h
  refine lv_bipush (v := (97 : Int32)) C.1 C.2.1 dX5_isChecked_0 (by decide) ?_
  refine lv_istore_n (lv' := [(1, .int (97 : Int32)), (0, .ref (E.2.1 10))]) C.1 C.2.1 dX5_isChecked_2 rfl hl (by decide) rfl (fun ls hl => ?_)
  refine lv_iconst (v := (0 : Int32)) C.1 C.2.1 dX5_isChecked_3 (by decide) ?_
  refine lv_istore_n (lv' := [(2, .int (0 : Int32)), (1, .int (97 : Int32)), (0, .ref (E.2.1 10))]) C.1 C.2.1 dX5_isChecked_4 rfl hl (by decide) rfl (fun ls hl => ?_)
  exact w_X5_isChecked_5 C 5000 (97 : Int32) (0 : Int32) S h _ _ _ hR (lv_sub hl [2, 1, 0] rfl)
theorem dX5_take_0 : decode cX5_take 0 = .ok (.iconst 0, 1) := by decide +kernel
theorem dX5_take_1 : decode cX5_take 1 = .ok (.istore_n 3, 1) := by decide +kernel
theorem dX5_take_2 : decode cX5_take 2 = .ok (.iconst 0, 1) := by decide +kernel
theorem dX5_take_3 : decode cX5_take 3 = .ok (.istore 4, 2) := by decide +kernel
theorem dX5_take_5 : decode cX5_take 5 = .ok (.iload 4, 2) := by decide +kernel
theorem dX5_take_7 : decode cX5_take 7 = .ok (.iload_n 2, 1) := by decide +kernel
theorem dX5_take_8 : decode cX5_take 8 = .ok (.if_icmp .ge 33, 3) := by decide +kernel
theorem dX5_take_11 : decode cX5_take 11 = .ok (.iload_n 3, 1) := by decide +kernel
theorem dX5_take_12 : decode cX5_take 12 = .ok (.bipush 8, 2) := by decide +kernel
theorem dX5_take_14 : decode cX5_take 14 = .ok (.ishl, 1) := by decide +kernel
theorem dX5_take_15 : decode cX5_take 15 = .ok (.aload_n 1, 1) := by decide +kernel
theorem dX5_take_16 : decode cX5_take 16 = .ok (.aload_n 0, 1) := by decide +kernel
theorem dX5_take_17 : decode cX5_take 17 = .ok (.getfield 19, 3) := by decide +kernel
theorem dX5_take_20 : decode cX5_take 20 = .ok (.invokevirtual 69, 3) := by decide +kernel
theorem dX5_take_23 : decode cX5_take 23 = .ok (.ior, 1) := by decide +kernel
theorem dX5_take_24 : decode cX5_take 24 = .ok (.istore_n 3, 1) := by decide +kernel
theorem dX5_take_25 : decode cX5_take 25 = .ok (.aload_n 0, 1) := by decide +kernel
theorem dX5_take_26 : decode cX5_take 26 = .ok (.dup, 1) := by decide +kernel
theorem dX5_take_27 : decode cX5_take 27 = .ok (.getfield 19, 3) := by decide +kernel
theorem dX5_take_30 : decode cX5_take 30 = .ok (.iconst 1, 1) := by decide +kernel
theorem dX5_take_31 : decode cX5_take 31 = .ok (.iadd, 1) := by decide +kernel
theorem dX5_take_32 : decode cX5_take 32 = .ok (.putfield 19, 3) := by decide +kernel
theorem dX5_take_35 : decode cX5_take 35 = .ok (.iinc 4 1, 3) := by decide +kernel
theorem dX5_take_38 : decode cX5_take 38 = .ok (.goto (-33), 3) := by decide +kernel
theorem dX5_take_41 : decode cX5_take 41 = .ok (.iload_n 3, 1) := by decide +kernel
theorem dX5_take_42 : decode cX5_take 42 = .ok (.ireturn, 1) := by decide +kernel
def f_X5_take_5 : Nat → Int32 → Int32 → Int32 → Hp → Option (Int32 × Hp)
  | 0, _, _, _, _ => none
  | k + 1, x2, x3, x4, S => if x2 ≤ x4 then some (x3, S) else ob2 (f_X10_byteAt (S.1 90 2) S) (fun r1 S1 => le1 ((x3 <<< ((8 : Int32) &&& 31)) ||| r1) (fun v2 => le1 (ho_sI S1 90 2 ((S1.1 90 2) + (1 : Int32))) (fun S3 => le1 (x4 + (1 : Int32)) (fun v4 => f_X5_take_5 k x2 v2 v4 S3))))
set_option maxHeartbeats 4000000 in
set_option maxRecDepth 100000 in
theorem w_X5_take_5 {p : Program} {l : Launch} {e : Env} {s : State} {m : MethodId} {args : Array Value} {below : List Frame} {meth : Method} {c : Code} {E : Ev} {S0 : Hp} {r : (Int32 × Hp)} (C : ho_I p s m args meth c RX5 cX5_take 5 (some .int)) :
    ∀ (k : Nat) (x2 : Int32) (x3 : Int32) (x4 : Int32) (S : Hp), f_X5_take_5 k x2 x3 x4 S = some r → ho_G p l e s m args below meth c yH E S0 1 5 (some (.int r.1), r.2) 5 [(0, .ref (E.2.1 90)), (1, .ref (E.2.1 10)), (2, .int x2), (3, .int x3), (4, .int x4)] [] S := by
  intro k
  induction k with
  | zero =>
    intro x2 x3 x4 S h
    exact absurd (show (none : Option (Int32 × Hp)) = some r from h) (by simp)
  | succ k ih =>
    intro x2 x3 x4 S h H locs ls hR hl
    rw [f_X5_take_5] at h
    refine lv_iload C.1 C.2.1 dX5_take_5 (lv_at hl 4 rfl) ?_
    refine lv_iload_n C.1 C.2.1 dX5_take_7 rfl (lv_at hl 2 rfl) ?_
    refine lv_icmp_ge (tgt := 41) C.1 C.2.1 dX5_take_8 (by decide) (fun hc => ?_) (fun hc => ?_)
    · replace h := if_t h hc
      refine lv_iload_n C.1 C.2.1 dX5_take_41 rfl (lv_at hl 3 rfl) ?_
      exact ho_iret C hR h dX5_take_42
    · replace h := if_f h hc
      refine lv_iload_n C.1 C.2.1 dX5_take_11 rfl (lv_at hl 3 rfl) ?_
      refine lv_bipush (v := (8 : Int32)) C.1 C.2.1 dX5_take_12 (by decide) ?_
      refine lv_ishl C.1 C.2.1 dX5_take_14 ?_
      refine lv_aload_n C.1 C.2.1 dX5_take_15 rfl (lv_at hl 1 rfl) ?_
      refine lv_aload_n C.1 C.2.1 dX5_take_16 rfl (lv_at hl 0 rfl) ?_
      refine ho_getI C cf5 fH_RX5_19 hR aH_90 dX5_take_17 ?_
      obtain ⟨r1, S1, h1, h⟩ := ob2_ok h
      refine hr_Vi (v := r1) (S' := S1) (As := [.int (S.1 90 2)]) (rest := [.int (x3 <<< ((8 : Int32) &&& 31))]) C cf10 (c_X10_byteAt l E (S.1 90 2) _ _ h1) yv_X10_byteAt lk_RX5_69 rfl aH_10 rfl rfl hl.1 (Nat.le_of_ble_eq_true rfl) (by decide) (by decide) hR (ho_A hR) dX5_take_20 (fun H locs hR => ?_)
      refine lv_ior C.1 C.2.1 dX5_take_23 ?_
      refine lv_topi (fun v2 e2 => ?_)
      replace h := le1_at e2 h
      refine lv_istore_n (lv' := [(3, .int v2), (0, .ref (E.2.1 90)), (1, .ref (E.2.1 10)), (2, .int x2), (4, .int x4)]) C.1 C.2.1 dX5_take_24 rfl hl (by decide) rfl (fun ls hl => ?_)
      refine lv_aload_n C.1 C.2.1 dX5_take_25 rfl (lv_at hl 1 rfl) ?_
      refine lv_dup C.1 C.2.1 dX5_take_26 rfl ?_
      refine ho_getI C cf5 fH_RX5_19 hR aH_90 dX5_take_27 ?_
      refine lv_iconst (v := (1 : Int32)) C.1 C.2.1 dX5_take_30 (by decide) ?_
      refine lv_iadd C.1 C.2.1 dX5_take_31 ?_
      obtain ⟨S3, e3, h⟩ := le1_ok h
      refine hr_putI C cf5 fH_RX5_19 hR aH_90 e3 dX5_take_32 (fun H locs hR => ?_)
      obtain ⟨v4, e4, h⟩ := le1_ok h
      refine lv_iinc (v := v4) (lv' := [(4, .int v4), (3, .int v2), (0, .ref (E.2.1 90)), (1, .ref (E.2.1 10)), (2, .int x2)]) C.1 C.2.1 dX5_take_35 hl (k := 4) rfl (by rw [e4]; rfl) (by decide) rfl (fun ls hl => ?_)
      refine lv_goto (tgt := 5) C.1 C.2.1 dX5_take_38 (by decide) ?_
      exact ih x2 v2 v4 S3 h _ _ _ hR (lv_sub hl [2, 3, 4, 1, 0] rfl)
def f_X5_take (x2 : Int32) (S : Hp) : Option (Int32 × Hp) :=
  f_X5_take_5 5000 x2 (0 : Int32) (0 : Int32) S
set_option maxHeartbeats 4000000 in
set_option maxRecDepth 100000 in
theorem c_X5_take (l : Launch) (E : Ev) (x2 : Int32) (S : Hp) (r : (Int32 × Hp)) (h : f_X5_take x2 S = some r) : ho_M l yH E yX5_take cX5_take 5 (some .int) 1 [.ref (E.2.1 90), .ref (E.2.1 10), .int x2] S (some (.int r.1), r.2) := by
  refine ho_in (by decide) (Nat.le_of_ble_eq_true rfl) ?_
  intro p e s m args below meth c C hR ls hl
  have C : ho_I p s m args meth c RX5 cX5_take 5 (some .int) := C
  have hl : lv_has ls 5 [(0, .ref (E.2.1 90)), (1, .ref (E.2.1 10)), (2, .int x2)] := hl
  unfold f_X5_take at h
  refine lv_iconst (v := (0 : Int32)) C.1 C.2.1 dX5_take_0 (by decide) ?_
  refine lv_istore_n (lv' := [(3, .int (0 : Int32)), (0, .ref (E.2.1 90)), (1, .ref (E.2.1 10)), (2, .int x2)]) C.1 C.2.1 dX5_take_1 rfl hl (by decide) rfl (fun ls hl => ?_)
  refine lv_iconst (v := (0 : Int32)) C.1 C.2.1 dX5_take_2 (by decide) ?_
  refine lv_istore (lv' := [(4, .int (0 : Int32)), (3, .int (0 : Int32)), (0, .ref (E.2.1 90)), (1, .ref (E.2.1 10)), (2, .int x2)]) C.1 C.2.1 dX5_take_3 hl (by decide) rfl (fun ls hl => ?_)
  exact w_X5_take_5 C 5000 x2 (0 : Int32) (0 : Int32) S h _ _ _ hR (lv_sub hl [2, 3, 4, 1, 0] rfl)
theorem dX5_readable_0 : decode cX5_readable 0 = .ok (.aload_n 2, 1) := by decide +kernel
theorem dX5_readable_1 : decode cX5_readable 1 = .ok (.getfield 37, 3) := by decide +kernel
theorem dX5_readable_4 : decode cX5_readable 4 = .ok (.astore_n 3, 1) := by decide +kernel
theorem dX5_readable_5 : decode cX5_readable 5 = .ok (.bipush 6, 2) := by decide +kernel
theorem dX5_readable_7 : decode cX5_readable 7 = .ok (.iconst 2, 1) := by decide +kernel
theorem dX5_readable_8 : decode cX5_readable 8 = .ok (.aload_n 3, 1) := by decide +kernel
theorem dX5_readable_9 : decode cX5_readable 9 = .ok (.iconst 0, 1) := by decide +kernel
theorem dX5_readable_10 : decode cX5_readable 10 = .ok (.iaload, 1) := by decide +kernel
theorem dX5_readable_11 : decode cX5_readable 11 = .ok (.imul, 1) := by decide +kernel
theorem dX5_readable_12 : decode cX5_readable 12 = .ok (.iadd, 1) := by decide +kernel
theorem dX5_readable_13 : decode cX5_readable 13 = .ok (.iconst 4, 1) := by decide +kernel
theorem dX5_readable_14 : decode cX5_readable 14 = .ok (.aload_n 3, 1) := by decide +kernel
theorem dX5_readable_15 : decode cX5_readable 15 = .ok (.iconst 1, 1) := by decide +kernel
theorem dX5_readable_16 : decode cX5_readable 16 = .ok (.iaload, 1) := by decide +kernel
theorem dX5_readable_17 : decode cX5_readable 17 = .ok (.imul, 1) := by decide +kernel
theorem dX5_readable_18 : decode cX5_readable 18 = .ok (.iadd, 1) := by decide +kernel
theorem dX5_readable_19 : decode cX5_readable 19 = .ok (.aload_n 3, 1) := by decide +kernel
theorem dX5_readable_20 : decode cX5_readable 20 = .ok (.iconst 2, 1) := by decide +kernel
theorem dX5_readable_21 : decode cX5_readable 21 = .ok (.iaload, 1) := by decide +kernel
theorem dX5_readable_22 : decode cX5_readable 22 = .ok (.iadd, 1) := by decide +kernel
theorem dX5_readable_23 : decode cX5_readable 23 = .ok (.iconst 1, 1) := by decide +kernel
theorem dX5_readable_24 : decode cX5_readable 24 = .ok (.iadd, 1) := by decide +kernel
theorem dX5_readable_25 : decode cX5_readable 25 = .ok (.istore 4, 2) := by decide +kernel
theorem dX5_readable_27 : decode cX5_readable 27 = .ok (.aload_n 1, 1) := by decide +kernel
theorem dX5_readable_28 : decode cX5_readable 28 = .ok (.getfield 54, 3) := by decide +kernel
theorem dX5_readable_31 : decode cX5_readable 31 = .ok (.iload 4, 2) := by decide +kernel
theorem dX5_readable_33 : decode cX5_readable 33 = .ok (.if_icmp .ne 10, 3) := by decide +kernel
theorem dX5_readable_36 : decode cX5_readable 36 = .ok (.aload_n 1, 1) := by decide +kernel
theorem dX5_readable_37 : decode cX5_readable 37 = .ok (.invokestatic 57, 3) := by decide +kernel
theorem dX5_readable_40 : decode cX5_readable 40 = .ok (.ifCond .ne 5, 3) := by decide +kernel
theorem dX5_readable_43 : decode cX5_readable 43 = .ok (.iconst 0, 1) := by decide +kernel
theorem dX5_readable_44 : decode cX5_readable 44 = .ok (.ireturn, 1) := by decide +kernel
theorem dX5_readable_45 : decode cX5_readable 45 = .ok (.aload_n 0, 1) := by decide +kernel
theorem dX5_readable_46 : decode cX5_readable 46 = .ok (.iconst 0, 1) := by decide +kernel
theorem dX5_readable_47 : decode cX5_readable 47 = .ok (.putfield 19, 3) := by decide +kernel
theorem dX5_readable_50 : decode cX5_readable 50 = .ok (.aload_n 0, 1) := by decide +kernel
theorem dX5_readable_51 : decode cX5_readable 51 = .ok (.aload_n 1, 1) := by decide +kernel
theorem dX5_readable_52 : decode cX5_readable 52 = .ok (.iconst 2, 1) := by decide +kernel
theorem dX5_readable_53 : decode cX5_readable 53 = .ok (.invokevirtual 61, 3) := by decide +kernel
theorem dX5_readable_56 : decode cX5_readable 56 = .ok (.sipush 999, 3) := by decide +kernel
theorem dX5_readable_59 : decode cX5_readable 59 = .ok (.if_icmp .gt 7, 3) := by decide +kernel
theorem dX5_readable_62 : decode cX5_readable 62 = .ok (.iconst 1, 1) := by decide +kernel
theorem dX5_readable_63 : decode cX5_readable 63 = .ok (.goto 4, 3) := by decide +kernel
theorem dX5_readable_66 : decode cX5_readable 66 = .ok (.iconst 0, 1) := by decide +kernel
theorem dX5_readable_67 : decode cX5_readable 67 = .ok (.istore 5, 2) := by decide +kernel
theorem dX5_readable_69 : decode cX5_readable 69 = .ok (.iload 5, 2) := by decide +kernel
theorem dX5_readable_71 : decode cX5_readable 71 = .ok (.aload_n 0, 1) := by decide +kernel
theorem dX5_readable_72 : decode cX5_readable 72 = .ok (.aload_n 1, 1) := by decide +kernel
theorem dX5_readable_73 : decode cX5_readable 73 = .ok (.iconst 3, 1) := by decide +kernel
theorem dX5_readable_74 : decode cX5_readable 74 = .ok (.invokevirtual 61, 3) := by decide +kernel
theorem dX5_readable_77 : decode cX5_readable 77 = .ok (.ldc 65, 2) := by decide +kernel
theorem dX5_readable_79 : decode cX5_readable 79 = .ok (.if_icmp .gt 7, 3) := by decide +kernel
theorem dX5_readable_82 : decode cX5_readable 82 = .ok (.iconst 1, 1) := by decide +kernel
theorem dX5_readable_83 : decode cX5_readable 83 = .ok (.goto 4, 3) := by decide +kernel
theorem dX5_readable_86 : decode cX5_readable 86 = .ok (.iconst 0, 1) := by decide +kernel
theorem dX5_readable_87 : decode cX5_readable 87 = .ok (.iand, 1) := by decide +kernel
theorem dX5_readable_88 : decode cX5_readable 88 = .ok (.istore 5, 2) := by decide +kernel
theorem dX5_readable_90 : decode cX5_readable 90 = .ok (.iload 5, 2) := by decide +kernel
theorem dX5_readable_92 : decode cX5_readable 92 = .ok (.aload_n 0, 1) := by decide +kernel
theorem dX5_readable_93 : decode cX5_readable 93 = .ok (.aload_n 1, 1) := by decide +kernel
theorem dX5_readable_94 : decode cX5_readable 94 = .ok (.iconst 1, 1) := by decide +kernel
theorem dX5_readable_95 : decode cX5_readable 95 = .ok (.invokevirtual 61, 3) := by decide +kernel
theorem dX5_readable_98 : decode cX5_readable 98 = .ok (.bipush 100, 2) := by decide +kernel
theorem dX5_readable_100 : decode cX5_readable 100 = .ok (.if_icmp .gt 7, 3) := by decide +kernel
theorem dX5_readable_103 : decode cX5_readable 103 = .ok (.iconst 1, 1) := by decide +kernel
theorem dX5_readable_104 : decode cX5_readable 104 = .ok (.goto 4, 3) := by decide +kernel
theorem dX5_readable_107 : decode cX5_readable 107 = .ok (.iconst 0, 1) := by decide +kernel
theorem dX5_readable_108 : decode cX5_readable 108 = .ok (.iand, 1) := by decide +kernel
theorem dX5_readable_109 : decode cX5_readable 109 = .ok (.istore 5, 2) := by decide +kernel
theorem dX5_readable_111 : decode cX5_readable 111 = .ok (.iconst 0, 1) := by decide +kernel
theorem dX5_readable_112 : decode cX5_readable 112 = .ok (.istore 6, 2) := by decide +kernel
theorem dX5_readable_114 : decode cX5_readable 114 = .ok (.iload 6, 2) := by decide +kernel
theorem dX5_readable_116 : decode cX5_readable 116 = .ok (.aload_n 3, 1) := by decide +kernel
theorem dX5_readable_117 : decode cX5_readable 117 = .ok (.iconst 0, 1) := by decide +kernel
theorem dX5_readable_118 : decode cX5_readable 118 = .ok (.iaload, 1) := by decide +kernel
theorem dX5_readable_119 : decode cX5_readable 119 = .ok (.if_icmp .ge 31, 3) := by decide +kernel
theorem dX5_readable_122 : decode cX5_readable 122 = .ok (.iload 5, 2) := by decide +kernel
theorem dX5_readable_124 : decode cX5_readable 124 = .ok (.aload_n 0, 1) := by decide +kernel
theorem dX5_readable_125 : decode cX5_readable 125 = .ok (.aload_n 1, 1) := by decide +kernel
theorem dX5_readable_126 : decode cX5_readable 126 = .ok (.iconst 2, 1) := by decide +kernel
theorem dX5_readable_127 : decode cX5_readable 127 = .ok (.invokevirtual 61, 3) := by decide +kernel
theorem dX5_readable_130 : decode cX5_readable 130 = .ok (.sipush 9999, 3) := by decide +kernel
theorem dX5_readable_133 : decode cX5_readable 133 = .ok (.if_icmp .gt 7, 3) := by decide +kernel
theorem dX5_readable_136 : decode cX5_readable 136 = .ok (.iconst 1, 1) := by decide +kernel
theorem dX5_readable_137 : decode cX5_readable 137 = .ok (.goto 4, 3) := by decide +kernel
theorem dX5_readable_140 : decode cX5_readable 140 = .ok (.iconst 0, 1) := by decide +kernel
theorem dX5_readable_141 : decode cX5_readable 141 = .ok (.iand, 1) := by decide +kernel
theorem dX5_readable_142 : decode cX5_readable 142 = .ok (.istore 5, 2) := by decide +kernel
theorem dX5_readable_144 : decode cX5_readable 144 = .ok (.iinc 6 1, 3) := by decide +kernel
theorem dX5_readable_147 : decode cX5_readable 147 = .ok (.goto (-33), 3) := by decide +kernel
theorem dX5_readable_150 : decode cX5_readable 150 = .ok (.iconst 0, 1) := by decide +kernel
theorem dX5_readable_151 : decode cX5_readable 151 = .ok (.istore 6, 2) := by decide +kernel
theorem dX5_readable_153 : decode cX5_readable 153 = .ok (.iload 6, 2) := by decide +kernel
theorem dX5_readable_155 : decode cX5_readable 155 = .ok (.aload_n 3, 1) := by decide +kernel
theorem dX5_readable_156 : decode cX5_readable 156 = .ok (.iconst 1, 1) := by decide +kernel
theorem dX5_readable_157 : decode cX5_readable 157 = .ok (.iaload, 1) := by decide +kernel
theorem dX5_readable_158 : decode cX5_readable 158 = .ok (.if_icmp .ge 53, 3) := by decide +kernel
theorem dX5_readable_161 : decode cX5_readable 161 = .ok (.iload 5, 2) := by decide +kernel
theorem dX5_readable_163 : decode cX5_readable 163 = .ok (.aload_n 0, 1) := by decide +kernel
theorem dX5_readable_164 : decode cX5_readable 164 = .ok (.aload_n 1, 1) := by decide +kernel
theorem dX5_readable_165 : decode cX5_readable 165 = .ok (.iconst 2, 1) := by decide +kernel
theorem dX5_readable_166 : decode cX5_readable 166 = .ok (.invokevirtual 61, 3) := by decide +kernel
theorem dX5_readable_169 : decode cX5_readable 169 = .ok (.sipush 9999, 3) := by decide +kernel
theorem dX5_readable_172 : decode cX5_readable 172 = .ok (.if_icmp .gt 7, 3) := by decide +kernel
theorem dX5_readable_175 : decode cX5_readable 175 = .ok (.iconst 1, 1) := by decide +kernel
theorem dX5_readable_176 : decode cX5_readable 176 = .ok (.goto 4, 3) := by decide +kernel
theorem dX5_readable_179 : decode cX5_readable 179 = .ok (.iconst 0, 1) := by decide +kernel
theorem dX5_readable_180 : decode cX5_readable 180 = .ok (.iand, 1) := by decide +kernel
theorem dX5_readable_181 : decode cX5_readable 181 = .ok (.istore 5, 2) := by decide +kernel
theorem dX5_readable_183 : decode cX5_readable 183 = .ok (.iload 5, 2) := by decide +kernel
theorem dX5_readable_185 : decode cX5_readable 185 = .ok (.aload_n 0, 1) := by decide +kernel
theorem dX5_readable_186 : decode cX5_readable 186 = .ok (.aload_n 1, 1) := by decide +kernel
theorem dX5_readable_187 : decode cX5_readable 187 = .ok (.iconst 2, 1) := by decide +kernel
theorem dX5_readable_188 : decode cX5_readable 188 = .ok (.invokevirtual 61, 3) := by decide +kernel
theorem dX5_readable_191 : decode cX5_readable 191 = .ok (.sipush 999, 3) := by decide +kernel
theorem dX5_readable_194 : decode cX5_readable 194 = .ok (.if_icmp .gt 7, 3) := by decide +kernel
theorem dX5_readable_197 : decode cX5_readable 197 = .ok (.iconst 1, 1) := by decide +kernel
theorem dX5_readable_198 : decode cX5_readable 198 = .ok (.goto 4, 3) := by decide +kernel
theorem dX5_readable_201 : decode cX5_readable 201 = .ok (.iconst 0, 1) := by decide +kernel
theorem dX5_readable_202 : decode cX5_readable 202 = .ok (.iand, 1) := by decide +kernel
theorem dX5_readable_203 : decode cX5_readable 203 = .ok (.istore 5, 2) := by decide +kernel
theorem dX5_readable_205 : decode cX5_readable 205 = .ok (.iinc 6 1, 3) := by decide +kernel
theorem dX5_readable_208 : decode cX5_readable 208 = .ok (.goto (-55), 3) := by decide +kernel
theorem dX5_readable_211 : decode cX5_readable 211 = .ok (.iconst 0, 1) := by decide +kernel
theorem dX5_readable_212 : decode cX5_readable 212 = .ok (.istore 6, 2) := by decide +kernel
theorem dX5_readable_214 : decode cX5_readable 214 = .ok (.iload 6, 2) := by decide +kernel
theorem dX5_readable_216 : decode cX5_readable 216 = .ok (.aload_n 3, 1) := by decide +kernel
theorem dX5_readable_217 : decode cX5_readable 217 = .ok (.iconst 2, 1) := by decide +kernel
theorem dX5_readable_218 : decode cX5_readable 218 = .ok (.iaload, 1) := by decide +kernel
theorem dX5_readable_219 : decode cX5_readable 219 = .ok (.if_icmp .ge 30, 3) := by decide +kernel
theorem dX5_readable_222 : decode cX5_readable 222 = .ok (.iload 5, 2) := by decide +kernel
theorem dX5_readable_224 : decode cX5_readable 224 = .ok (.aload_n 0, 1) := by decide +kernel
theorem dX5_readable_225 : decode cX5_readable 225 = .ok (.aload_n 1, 1) := by decide +kernel
theorem dX5_readable_226 : decode cX5_readable 226 = .ok (.iconst 1, 1) := by decide +kernel
theorem dX5_readable_227 : decode cX5_readable 227 = .ok (.invokevirtual 61, 3) := by decide +kernel
theorem dX5_readable_230 : decode cX5_readable 230 = .ok (.bipush 10, 2) := by decide +kernel
theorem dX5_readable_232 : decode cX5_readable 232 = .ok (.if_icmp .ge 7, 3) := by decide +kernel
theorem dX5_readable_235 : decode cX5_readable 235 = .ok (.iconst 1, 1) := by decide +kernel
theorem dX5_readable_236 : decode cX5_readable 236 = .ok (.goto 4, 3) := by decide +kernel
theorem dX5_readable_239 : decode cX5_readable 239 = .ok (.iconst 0, 1) := by decide +kernel
theorem dX5_readable_240 : decode cX5_readable 240 = .ok (.iand, 1) := by decide +kernel
theorem dX5_readable_241 : decode cX5_readable 241 = .ok (.istore 5, 2) := by decide +kernel
theorem dX5_readable_243 : decode cX5_readable 243 = .ok (.iinc 6 1, 3) := by decide +kernel
theorem dX5_readable_246 : decode cX5_readable 246 = .ok (.goto (-32), 3) := by decide +kernel
theorem dX5_readable_249 : decode cX5_readable 249 = .ok (.iload 5, 2) := by decide +kernel
theorem dX5_readable_251 : decode cX5_readable 251 = .ok (.ireturn, 1) := by decide +kernel
def f_X5_readable_240 (K214 : Int32 → Int32 → Hp → Option (Int32 × Hp)) (a2 : Nat) (x6 : Int32) (z0 : Int32) (z1 : Int32) (S : Hp) : Option (Int32 × Hp) :=
  le1 (z0 &&& z1) (fun v1 => le1 (x6 + (1 : Int32)) (fun v2 => K214 v1 v2 S))
set_option maxHeartbeats 4000000 in
set_option maxRecDepth 100000 in
theorem w_X5_readable_240 {p : Program} {l : Launch} {e : Env} {s : State} {m : MethodId} {args : Array Value} {below : List Frame} {meth : Method} {c : Code} {E : Ev} {S0 : Hp} {r : (Int32 × Hp)} (C : ho_I p s m args meth c RX5 cX5_readable 7 (some .boolean)) (K214 : Int32 → Int32 → Hp → Option (Int32 × Hp)) (a2 : Nat) (ha2 : a2 ∈ yH.1 ∧ yH.2.1 a2 = (1, 2)) (hK214 : ∀ (y5 : Int32) (y6 : Int32) (S : Hp), K214 y5 y6 S = some r → ho_G p l e s m args below meth c yH E S0 2 7 (some (.int r.1), r.2) 214 [(0, .ref (E.2.1 90)), (1, .ref (E.2.1 10)), (3, .ref (E.2.1 (a2 + 1))), (5, .int y5), (6, .int y6)] [] S) :
    ∀ (x6 : Int32) (z0 : Int32) (z1 : Int32) (S : Hp), f_X5_readable_240 K214 a2 x6 z0 z1 S = some r → ho_G p l e s m args below meth c yH E S0 2 7 (some (.int r.1), r.2) 240 [(0, .ref (E.2.1 90)), (1, .ref (E.2.1 10)), (3, .ref (E.2.1 (a2 + 1))), (6, .int x6)] [.int z1, .int z0] S := by
  intro x6 z0 z1 S h H locs ls hR hl
  unfold f_X5_readable_240 at h
  refine lv_iand C.1 C.2.1 dX5_readable_240 ?_
  refine lv_topi (fun v1 e1 => ?_)
  replace h := le1_at e1 h
  refine lv_istore (lv' := [(5, .int v1), (0, .ref (E.2.1 90)), (1, .ref (E.2.1 10)), (3, .ref (E.2.1 (a2 + 1))), (6, .int x6)]) C.1 C.2.1 dX5_readable_241 hl (by decide) rfl (fun ls hl => ?_)
  obtain ⟨v2, e2, h⟩ := le1_ok h
  refine lv_iinc (v := v2) (lv' := [(6, .int v2), (5, .int v1), (0, .ref (E.2.1 90)), (1, .ref (E.2.1 10)), (3, .ref (E.2.1 (a2 + 1)))]) C.1 C.2.1 dX5_readable_243 hl (k := 4) rfl (by rw [e2]; rfl) (by decide) rfl (fun ls hl => ?_)
  refine lv_goto (tgt := 214) C.1 C.2.1 dX5_readable_246 (by decide) ?_
  exact hK214 v1 v2 S h _ _ _ hR (lv_sub hl [2, 3, 4, 1, 0] rfl)
def f_X5_readable_214 (a2 : Nat) : Nat → Int32 → Int32 → Hp → Option (Int32 × Hp)
  | 0, _, _, _ => none
  | k + 1, x5, x6, S => ldI S (a2 + 1) 3 (2 : Int32) (fun v1 => if v1 ≤ x6 then tr x5 (some (x5, S)) else ob2 (f_X5_take (1 : Int32) S) (fun r2 S2 => if (10 : Int32) ≤ r2 then f_X5_readable_240 (f_X5_readable_214 a2 k) a2 x6 x5 (0 : Int32) S2 else f_X5_readable_240 (f_X5_readable_214 a2 k) a2 x6 x5 (1 : Int32) S2))
set_option maxHeartbeats 4000000 in
set_option maxRecDepth 100000 in
theorem w_X5_readable_214 {p : Program} {l : Launch} {e : Env} {s : State} {m : MethodId} {args : Array Value} {below : List Frame} {meth : Method} {c : Code} {E : Ev} {S0 : Hp} {r : (Int32 × Hp)} (C : ho_I p s m args meth c RX5 cX5_readable 7 (some .boolean)) (a2 : Nat) (ha2 : a2 ∈ yH.1 ∧ yH.2.1 a2 = (1, 2)) :
    ∀ (k : Nat) (x5 : Int32) (x6 : Int32) (S : Hp), f_X5_readable_214 a2 k x5 x6 S = some r → ho_G p l e s m args below meth c yH E S0 2 7 (some (.int r.1), r.2) 214 [(0, .ref (E.2.1 90)), (1, .ref (E.2.1 10)), (3, .ref (E.2.1 (a2 + 1))), (5, .int x5), (6, .int x6)] [] S := by
  intro k
  induction k with
  | zero =>
    intro x5 x6 S h
    exact absurd (show (none : Option (Int32 × Hp)) = some r from h) (by simp)
  | succ k ih =>
    intro x5 x6 S h H locs ls hR hl
    rw [f_X5_readable_214] at h
    refine lv_iload C.1 C.2.1 dX5_readable_214 (lv_at hl 4 rfl) ?_
    refine lv_aload_n C.1 C.2.1 dX5_readable_216 rfl (lv_at hl 2 rfl) ?_
    refine lv_iconst (v := (2 : Int32)) C.1 C.2.1 dX5_readable_217 (by decide) ?_
    obtain ⟨v1, e1, hi1, h⟩ := ldI_ok h
    refine hr_ild C hR (rH_2_1 ha2) hi1 e1 dX5_readable_218 ?_
    refine lv_icmp_ge (tgt := 249) C.1 C.2.1 dX5_readable_219 (by decide) (fun hc => ?_) (fun hc => ?_)
    · replace h := if_t h hc
      refine lv_iload C.1 C.2.1 dX5_readable_249 (lv_at hl 3 rfl) ?_
      obtain ⟨hz, h⟩ := tr_ok h
      exact ho_zret C hR hz h dX5_readable_251
    · replace h := if_f h hc
      refine lv_iload C.1 C.2.1 dX5_readable_222 (lv_at hl 3 rfl) ?_
      refine lv_aload_n C.1 C.2.1 dX5_readable_224 rfl (lv_at hl 0 rfl) ?_
      refine lv_aload_n C.1 C.2.1 dX5_readable_225 rfl (lv_at hl 1 rfl) ?_
      refine lv_iconst (v := (1 : Int32)) C.1 C.2.1 dX5_readable_226 (by decide) ?_
      obtain ⟨r2, S2, h2, h⟩ := ob2_ok h
      refine hr_Vi (v := r2) (S' := S2) (As := [.ref (E.2.1 10), .int (1 : Int32)]) (rest := [.int x5]) C cf5 (c_X5_take l E (1 : Int32) _ _ h2) yv_X5_take lk_RX5_61 rfl aH_90 rfl rfl hl.1 (Nat.le_of_ble_eq_true rfl) (by decide) (by decide) hR (ho_A hR) dX5_readable_227 (fun H locs hR => ?_)
      refine lv_bipush (v := (10 : Int32)) C.1 C.2.1 dX5_readable_230 (by decide) ?_
      refine lv_icmp_ge (tgt := 239) C.1 C.2.1 dX5_readable_232 (by decide) (fun hc => ?_) (fun hc => ?_)
      · replace h := if_t h hc
        refine lv_iconst (v := (0 : Int32)) C.1 C.2.1 dX5_readable_239 (by decide) ?_
        exact w_X5_readable_240 C (f_X5_readable_214 a2 k) a2 ha2 ih x6 x5 (0 : Int32) S2 h _ _ _ hR (lv_sub hl [0, 1, 2, 4] rfl)
      · replace h := if_f h hc
        refine lv_iconst (v := (1 : Int32)) C.1 C.2.1 dX5_readable_235 (by decide) ?_
        refine lv_goto (tgt := 240) C.1 C.2.1 dX5_readable_236 (by decide) ?_
        exact w_X5_readable_240 C (f_X5_readable_214 a2 k) a2 ha2 ih x6 x5 (1 : Int32) S2 h _ _ _ hR (lv_sub hl [0, 1, 2, 4] rfl)
def f_X5_readable_202 (K153 : Int32 → Int32 → Hp → Option (Int32 × Hp)) (a2 : Nat) (x6 : Int32) (z0 : Int32) (z1 : Int32) (S : Hp) : Option (Int32 × Hp) :=
  le1 (z0 &&& z1) (fun v1 => le1 (x6 + (1 : Int32)) (fun v2 => K153 v1 v2 S))
set_option maxHeartbeats 4000000 in
set_option maxRecDepth 100000 in
theorem w_X5_readable_202 {p : Program} {l : Launch} {e : Env} {s : State} {m : MethodId} {args : Array Value} {below : List Frame} {meth : Method} {c : Code} {E : Ev} {S0 : Hp} {r : (Int32 × Hp)} (C : ho_I p s m args meth c RX5 cX5_readable 7 (some .boolean)) (K153 : Int32 → Int32 → Hp → Option (Int32 × Hp)) (a2 : Nat) (ha2 : a2 ∈ yH.1 ∧ yH.2.1 a2 = (1, 2)) (hK153 : ∀ (y5 : Int32) (y6 : Int32) (S : Hp), K153 y5 y6 S = some r → ho_G p l e s m args below meth c yH E S0 2 7 (some (.int r.1), r.2) 153 [(0, .ref (E.2.1 90)), (1, .ref (E.2.1 10)), (3, .ref (E.2.1 (a2 + 1))), (5, .int y5), (6, .int y6)] [] S) :
    ∀ (x6 : Int32) (z0 : Int32) (z1 : Int32) (S : Hp), f_X5_readable_202 K153 a2 x6 z0 z1 S = some r → ho_G p l e s m args below meth c yH E S0 2 7 (some (.int r.1), r.2) 202 [(0, .ref (E.2.1 90)), (1, .ref (E.2.1 10)), (3, .ref (E.2.1 (a2 + 1))), (6, .int x6)] [.int z1, .int z0] S := by
  intro x6 z0 z1 S h H locs ls hR hl
  unfold f_X5_readable_202 at h
  refine lv_iand C.1 C.2.1 dX5_readable_202 ?_
  refine lv_topi (fun v1 e1 => ?_)
  replace h := le1_at e1 h
  refine lv_istore (lv' := [(5, .int v1), (0, .ref (E.2.1 90)), (1, .ref (E.2.1 10)), (3, .ref (E.2.1 (a2 + 1))), (6, .int x6)]) C.1 C.2.1 dX5_readable_203 hl (by decide) rfl (fun ls hl => ?_)
  obtain ⟨v2, e2, h⟩ := le1_ok h
  refine lv_iinc (v := v2) (lv' := [(6, .int v2), (5, .int v1), (0, .ref (E.2.1 90)), (1, .ref (E.2.1 10)), (3, .ref (E.2.1 (a2 + 1)))]) C.1 C.2.1 dX5_readable_205 hl (k := 4) rfl (by rw [e2]; rfl) (by decide) rfl (fun ls hl => ?_)
  refine lv_goto (tgt := 153) C.1 C.2.1 dX5_readable_208 (by decide) ?_
  exact hK153 v1 v2 S h _ _ _ hR (lv_sub hl [2, 3, 4, 1, 0] rfl)
def f_X5_readable_180 (K153 : Int32 → Int32 → Hp → Option (Int32 × Hp)) (a2 : Nat) (x6 : Int32) (z0 : Int32) (z1 : Int32) (S : Hp) : Option (Int32 × Hp) :=
  le1 (z0 &&& z1) (fun v1 => ob2 (f_X5_take (2 : Int32) S) (fun r2 S2 => if (999 : Int32) < r2 then f_X5_readable_202 K153 a2 x6 v1 (0 : Int32) S2 else f_X5_readable_202 K153 a2 x6 v1 (1 : Int32) S2))
set_option maxHeartbeats 4000000 in
set_option maxRecDepth 100000 in
theorem w_X5_readable_180 {p : Program} {l : Launch} {e : Env} {s : State} {m : MethodId} {args : Array Value} {below : List Frame} {meth : Method} {c : Code} {E : Ev} {S0 : Hp} {r : (Int32 × Hp)} (C : ho_I p s m args meth c RX5 cX5_readable 7 (some .boolean)) (K153 : Int32 → Int32 → Hp → Option (Int32 × Hp)) (a2 : Nat) (ha2 : a2 ∈ yH.1 ∧ yH.2.1 a2 = (1, 2)) (hK153 : ∀ (y5 : Int32) (y6 : Int32) (S : Hp), K153 y5 y6 S = some r → ho_G p l e s m args below meth c yH E S0 2 7 (some (.int r.1), r.2) 153 [(0, .ref (E.2.1 90)), (1, .ref (E.2.1 10)), (3, .ref (E.2.1 (a2 + 1))), (5, .int y5), (6, .int y6)] [] S) :
    ∀ (x6 : Int32) (z0 : Int32) (z1 : Int32) (S : Hp), f_X5_readable_180 K153 a2 x6 z0 z1 S = some r → ho_G p l e s m args below meth c yH E S0 2 7 (some (.int r.1), r.2) 180 [(0, .ref (E.2.1 90)), (1, .ref (E.2.1 10)), (3, .ref (E.2.1 (a2 + 1))), (6, .int x6)] [.int z1, .int z0] S := by
  intro x6 z0 z1 S h H locs ls hR hl
  unfold f_X5_readable_180 at h
  refine lv_iand C.1 C.2.1 dX5_readable_180 ?_
  refine lv_topi (fun v1 e1 => ?_)
  replace h := le1_at e1 h
  refine lv_istore (lv' := [(5, .int v1), (0, .ref (E.2.1 90)), (1, .ref (E.2.1 10)), (3, .ref (E.2.1 (a2 + 1))), (6, .int x6)]) C.1 C.2.1 dX5_readable_181 hl (by decide) rfl (fun ls hl => ?_)
  refine lv_iload C.1 C.2.1 dX5_readable_183 (lv_at hl 0 rfl) ?_
  refine lv_aload_n C.1 C.2.1 dX5_readable_185 rfl (lv_at hl 1 rfl) ?_
  refine lv_aload_n C.1 C.2.1 dX5_readable_186 rfl (lv_at hl 2 rfl) ?_
  refine lv_iconst (v := (2 : Int32)) C.1 C.2.1 dX5_readable_187 (by decide) ?_
  obtain ⟨r2, S2, h2, h⟩ := ob2_ok h
  refine hr_Vi (v := r2) (S' := S2) (As := [.ref (E.2.1 10), .int (2 : Int32)]) (rest := [.int v1]) C cf5 (c_X5_take l E (2 : Int32) _ _ h2) yv_X5_take lk_RX5_61 rfl aH_90 rfl rfl hl.1 (Nat.le_of_ble_eq_true rfl) (by decide) (by decide) hR (ho_A hR) dX5_readable_188 (fun H locs hR => ?_)
  refine lv_sipush (v := (999 : Int32)) C.1 C.2.1 dX5_readable_191 (by decide) ?_
  refine lv_icmp_gt (tgt := 201) C.1 C.2.1 dX5_readable_194 (by decide) (fun hc => ?_) (fun hc => ?_)
  · replace h := if_t h hc
    refine lv_iconst (v := (0 : Int32)) C.1 C.2.1 dX5_readable_201 (by decide) ?_
    exact w_X5_readable_202 C K153 a2 ha2 hK153 x6 v1 (0 : Int32) S2 h _ _ _ hR (lv_sub hl [1, 2, 3, 4] rfl)
  · replace h := if_f h hc
    refine lv_iconst (v := (1 : Int32)) C.1 C.2.1 dX5_readable_197 (by decide) ?_
    refine lv_goto (tgt := 202) C.1 C.2.1 dX5_readable_198 (by decide) ?_
    exact w_X5_readable_202 C K153 a2 ha2 hK153 x6 v1 (1 : Int32) S2 h _ _ _ hR (lv_sub hl [1, 2, 3, 4] rfl)
def f_X5_readable_153 (a2 : Nat) : Nat → Int32 → Int32 → Hp → Option (Int32 × Hp)
  | 0, _, _, _ => none
  | k + 1, x5, x6, S => ldI S (a2 + 1) 3 (1 : Int32) (fun v1 => if v1 ≤ x6 then f_X5_readable_214 a2 5000 x5 (0 : Int32) S else ob2 (f_X5_take (2 : Int32) S) (fun r2 S2 => if (9999 : Int32) < r2 then f_X5_readable_180 (f_X5_readable_153 a2 k) a2 x6 x5 (0 : Int32) S2 else f_X5_readable_180 (f_X5_readable_153 a2 k) a2 x6 x5 (1 : Int32) S2))
set_option maxHeartbeats 4000000 in
set_option maxRecDepth 100000 in
theorem w_X5_readable_153 {p : Program} {l : Launch} {e : Env} {s : State} {m : MethodId} {args : Array Value} {below : List Frame} {meth : Method} {c : Code} {E : Ev} {S0 : Hp} {r : (Int32 × Hp)} (C : ho_I p s m args meth c RX5 cX5_readable 7 (some .boolean)) (a2 : Nat) (ha2 : a2 ∈ yH.1 ∧ yH.2.1 a2 = (1, 2)) :
    ∀ (k : Nat) (x5 : Int32) (x6 : Int32) (S : Hp), f_X5_readable_153 a2 k x5 x6 S = some r → ho_G p l e s m args below meth c yH E S0 2 7 (some (.int r.1), r.2) 153 [(0, .ref (E.2.1 90)), (1, .ref (E.2.1 10)), (3, .ref (E.2.1 (a2 + 1))), (5, .int x5), (6, .int x6)] [] S := by
  intro k
  induction k with
  | zero =>
    intro x5 x6 S h
    exact absurd (show (none : Option (Int32 × Hp)) = some r from h) (by simp)
  | succ k ih =>
    intro x5 x6 S h H locs ls hR hl
    rw [f_X5_readable_153] at h
    refine lv_iload C.1 C.2.1 dX5_readable_153 (lv_at hl 4 rfl) ?_
    refine lv_aload_n C.1 C.2.1 dX5_readable_155 rfl (lv_at hl 2 rfl) ?_
    refine lv_iconst (v := (1 : Int32)) C.1 C.2.1 dX5_readable_156 (by decide) ?_
    obtain ⟨v1, e1, hi1, h⟩ := ldI_ok h
    refine hr_ild C hR (rH_2_1 ha2) hi1 e1 dX5_readable_157 ?_
    refine lv_icmp_ge (tgt := 211) C.1 C.2.1 dX5_readable_158 (by decide) (fun hc => ?_) (fun hc => ?_)
    · replace h := if_t h hc
      refine lv_iconst (v := (0 : Int32)) C.1 C.2.1 dX5_readable_211 (by decide) ?_
      refine lv_istore (lv' := [(6, .int (0 : Int32)), (0, .ref (E.2.1 90)), (1, .ref (E.2.1 10)), (3, .ref (E.2.1 (a2 + 1))), (5, .int x5)]) C.1 C.2.1 dX5_readable_212 hl (by decide) rfl (fun ls hl => ?_)
      exact w_X5_readable_214 C a2 ha2 5000 x5 (0 : Int32) S h _ _ _ hR (lv_sub hl [1, 2, 3, 4, 0] rfl)
    · replace h := if_f h hc
      refine lv_iload C.1 C.2.1 dX5_readable_161 (lv_at hl 3 rfl) ?_
      refine lv_aload_n C.1 C.2.1 dX5_readable_163 rfl (lv_at hl 0 rfl) ?_
      refine lv_aload_n C.1 C.2.1 dX5_readable_164 rfl (lv_at hl 1 rfl) ?_
      refine lv_iconst (v := (2 : Int32)) C.1 C.2.1 dX5_readable_165 (by decide) ?_
      obtain ⟨r2, S2, h2, h⟩ := ob2_ok h
      refine hr_Vi (v := r2) (S' := S2) (As := [.ref (E.2.1 10), .int (2 : Int32)]) (rest := [.int x5]) C cf5 (c_X5_take l E (2 : Int32) _ _ h2) yv_X5_take lk_RX5_61 rfl aH_90 rfl rfl hl.1 (Nat.le_of_ble_eq_true rfl) (by decide) (by decide) hR (ho_A hR) dX5_readable_166 (fun H locs hR => ?_)
      refine lv_sipush (v := (9999 : Int32)) C.1 C.2.1 dX5_readable_169 (by decide) ?_
      refine lv_icmp_gt (tgt := 179) C.1 C.2.1 dX5_readable_172 (by decide) (fun hc => ?_) (fun hc => ?_)
      · replace h := if_t h hc
        refine lv_iconst (v := (0 : Int32)) C.1 C.2.1 dX5_readable_179 (by decide) ?_
        exact w_X5_readable_180 C (f_X5_readable_153 a2 k) a2 ha2 ih x6 x5 (0 : Int32) S2 h _ _ _ hR (lv_sub hl [0, 1, 2, 4] rfl)
      · replace h := if_f h hc
        refine lv_iconst (v := (1 : Int32)) C.1 C.2.1 dX5_readable_175 (by decide) ?_
        refine lv_goto (tgt := 180) C.1 C.2.1 dX5_readable_176 (by decide) ?_
        exact w_X5_readable_180 C (f_X5_readable_153 a2 k) a2 ha2 ih x6 x5 (1 : Int32) S2 h _ _ _ hR (lv_sub hl [0, 1, 2, 4] rfl)
def f_X5_readable_141 (K114 : Int32 → Int32 → Hp → Option (Int32 × Hp)) (a2 : Nat) (x6 : Int32) (z0 : Int32) (z1 : Int32) (S : Hp) : Option (Int32 × Hp) :=
  le1 (z0 &&& z1) (fun v1 => le1 (x6 + (1 : Int32)) (fun v2 => K114 v1 v2 S))
set_option maxHeartbeats 4000000 in
set_option maxRecDepth 100000 in
theorem w_X5_readable_141 {p : Program} {l : Launch} {e : Env} {s : State} {m : MethodId} {args : Array Value} {below : List Frame} {meth : Method} {c : Code} {E : Ev} {S0 : Hp} {r : (Int32 × Hp)} (C : ho_I p s m args meth c RX5 cX5_readable 7 (some .boolean)) (K114 : Int32 → Int32 → Hp → Option (Int32 × Hp)) (a2 : Nat) (ha2 : a2 ∈ yH.1 ∧ yH.2.1 a2 = (1, 2)) (hK114 : ∀ (y5 : Int32) (y6 : Int32) (S : Hp), K114 y5 y6 S = some r → ho_G p l e s m args below meth c yH E S0 2 7 (some (.int r.1), r.2) 114 [(0, .ref (E.2.1 90)), (1, .ref (E.2.1 10)), (3, .ref (E.2.1 (a2 + 1))), (5, .int y5), (6, .int y6)] [] S) :
    ∀ (x6 : Int32) (z0 : Int32) (z1 : Int32) (S : Hp), f_X5_readable_141 K114 a2 x6 z0 z1 S = some r → ho_G p l e s m args below meth c yH E S0 2 7 (some (.int r.1), r.2) 141 [(0, .ref (E.2.1 90)), (1, .ref (E.2.1 10)), (3, .ref (E.2.1 (a2 + 1))), (6, .int x6)] [.int z1, .int z0] S := by
  intro x6 z0 z1 S h H locs ls hR hl
  unfold f_X5_readable_141 at h
  refine lv_iand C.1 C.2.1 dX5_readable_141 ?_
  refine lv_topi (fun v1 e1 => ?_)
  replace h := le1_at e1 h
  refine lv_istore (lv' := [(5, .int v1), (0, .ref (E.2.1 90)), (1, .ref (E.2.1 10)), (3, .ref (E.2.1 (a2 + 1))), (6, .int x6)]) C.1 C.2.1 dX5_readable_142 hl (by decide) rfl (fun ls hl => ?_)
  obtain ⟨v2, e2, h⟩ := le1_ok h
  refine lv_iinc (v := v2) (lv' := [(6, .int v2), (5, .int v1), (0, .ref (E.2.1 90)), (1, .ref (E.2.1 10)), (3, .ref (E.2.1 (a2 + 1)))]) C.1 C.2.1 dX5_readable_144 hl (k := 4) rfl (by rw [e2]; rfl) (by decide) rfl (fun ls hl => ?_)
  refine lv_goto (tgt := 114) C.1 C.2.1 dX5_readable_147 (by decide) ?_
  exact hK114 v1 v2 S h _ _ _ hR (lv_sub hl [2, 3, 4, 1, 0] rfl)
def f_X5_readable_114 (a2 : Nat) : Nat → Int32 → Int32 → Hp → Option (Int32 × Hp)
  | 0, _, _, _ => none
  | k + 1, x5, x6, S => ldI S (a2 + 1) 3 (0 : Int32) (fun v1 => if v1 ≤ x6 then f_X5_readable_153 a2 5000 x5 (0 : Int32) S else ob2 (f_X5_take (2 : Int32) S) (fun r2 S2 => if (9999 : Int32) < r2 then f_X5_readable_141 (f_X5_readable_114 a2 k) a2 x6 x5 (0 : Int32) S2 else f_X5_readable_141 (f_X5_readable_114 a2 k) a2 x6 x5 (1 : Int32) S2))
set_option maxHeartbeats 4000000 in
set_option maxRecDepth 100000 in
theorem w_X5_readable_114 {p : Program} {l : Launch} {e : Env} {s : State} {m : MethodId} {args : Array Value} {below : List Frame} {meth : Method} {c : Code} {E : Ev} {S0 : Hp} {r : (Int32 × Hp)} (C : ho_I p s m args meth c RX5 cX5_readable 7 (some .boolean)) (a2 : Nat) (ha2 : a2 ∈ yH.1 ∧ yH.2.1 a2 = (1, 2)) :
    ∀ (k : Nat) (x5 : Int32) (x6 : Int32) (S : Hp), f_X5_readable_114 a2 k x5 x6 S = some r → ho_G p l e s m args below meth c yH E S0 2 7 (some (.int r.1), r.2) 114 [(0, .ref (E.2.1 90)), (1, .ref (E.2.1 10)), (3, .ref (E.2.1 (a2 + 1))), (5, .int x5), (6, .int x6)] [] S := by
  intro k
  induction k with
  | zero =>
    intro x5 x6 S h
    exact absurd (show (none : Option (Int32 × Hp)) = some r from h) (by simp)
  | succ k ih =>
    intro x5 x6 S h H locs ls hR hl
    rw [f_X5_readable_114] at h
    refine lv_iload C.1 C.2.1 dX5_readable_114 (lv_at hl 4 rfl) ?_
    refine lv_aload_n C.1 C.2.1 dX5_readable_116 rfl (lv_at hl 2 rfl) ?_
    refine lv_iconst (v := (0 : Int32)) C.1 C.2.1 dX5_readable_117 (by decide) ?_
    obtain ⟨v1, e1, hi1, h⟩ := ldI_ok h
    refine hr_ild C hR (rH_2_1 ha2) hi1 e1 dX5_readable_118 ?_
    refine lv_icmp_ge (tgt := 150) C.1 C.2.1 dX5_readable_119 (by decide) (fun hc => ?_) (fun hc => ?_)
    · replace h := if_t h hc
      refine lv_iconst (v := (0 : Int32)) C.1 C.2.1 dX5_readable_150 (by decide) ?_
      refine lv_istore (lv' := [(6, .int (0 : Int32)), (0, .ref (E.2.1 90)), (1, .ref (E.2.1 10)), (3, .ref (E.2.1 (a2 + 1))), (5, .int x5)]) C.1 C.2.1 dX5_readable_151 hl (by decide) rfl (fun ls hl => ?_)
      exact w_X5_readable_153 C a2 ha2 5000 x5 (0 : Int32) S h _ _ _ hR (lv_sub hl [1, 2, 3, 4, 0] rfl)
    · replace h := if_f h hc
      refine lv_iload C.1 C.2.1 dX5_readable_122 (lv_at hl 3 rfl) ?_
      refine lv_aload_n C.1 C.2.1 dX5_readable_124 rfl (lv_at hl 0 rfl) ?_
      refine lv_aload_n C.1 C.2.1 dX5_readable_125 rfl (lv_at hl 1 rfl) ?_
      refine lv_iconst (v := (2 : Int32)) C.1 C.2.1 dX5_readable_126 (by decide) ?_
      obtain ⟨r2, S2, h2, h⟩ := ob2_ok h
      refine hr_Vi (v := r2) (S' := S2) (As := [.ref (E.2.1 10), .int (2 : Int32)]) (rest := [.int x5]) C cf5 (c_X5_take l E (2 : Int32) _ _ h2) yv_X5_take lk_RX5_61 rfl aH_90 rfl rfl hl.1 (Nat.le_of_ble_eq_true rfl) (by decide) (by decide) hR (ho_A hR) dX5_readable_127 (fun H locs hR => ?_)
      refine lv_sipush (v := (9999 : Int32)) C.1 C.2.1 dX5_readable_130 (by decide) ?_
      refine lv_icmp_gt (tgt := 140) C.1 C.2.1 dX5_readable_133 (by decide) (fun hc => ?_) (fun hc => ?_)
      · replace h := if_t h hc
        refine lv_iconst (v := (0 : Int32)) C.1 C.2.1 dX5_readable_140 (by decide) ?_
        exact w_X5_readable_141 C (f_X5_readable_114 a2 k) a2 ha2 ih x6 x5 (0 : Int32) S2 h _ _ _ hR (lv_sub hl [0, 1, 2, 4] rfl)
      · replace h := if_f h hc
        refine lv_iconst (v := (1 : Int32)) C.1 C.2.1 dX5_readable_136 (by decide) ?_
        refine lv_goto (tgt := 141) C.1 C.2.1 dX5_readable_137 (by decide) ?_
        exact w_X5_readable_141 C (f_X5_readable_114 a2 k) a2 ha2 ih x6 x5 (1 : Int32) S2 h _ _ _ hR (lv_sub hl [0, 1, 2, 4] rfl)
def f_X5_readable_108 (a2 : Nat) (z0 : Int32) (z1 : Int32) (S : Hp) : Option (Int32 × Hp) :=
  le1 (z0 &&& z1) (fun v1 => f_X5_readable_114 a2 5000 v1 (0 : Int32) S)
set_option maxHeartbeats 4000000 in
set_option maxRecDepth 100000 in
theorem w_X5_readable_108 {p : Program} {l : Launch} {e : Env} {s : State} {m : MethodId} {args : Array Value} {below : List Frame} {meth : Method} {c : Code} {E : Ev} {S0 : Hp} {r : (Int32 × Hp)} (C : ho_I p s m args meth c RX5 cX5_readable 7 (some .boolean)) (a2 : Nat) (ha2 : a2 ∈ yH.1 ∧ yH.2.1 a2 = (1, 2)) :
    ∀ (z0 : Int32) (z1 : Int32) (S : Hp), f_X5_readable_108 a2 z0 z1 S = some r → ho_G p l e s m args below meth c yH E S0 2 7 (some (.int r.1), r.2) 108 [(0, .ref (E.2.1 90)), (1, .ref (E.2.1 10)), (3, .ref (E.2.1 (a2 + 1)))] [.int z1, .int z0] S := by
  intro z0 z1 S h H locs ls hR hl
  unfold f_X5_readable_108 at h
  refine lv_iand C.1 C.2.1 dX5_readable_108 ?_
  refine lv_topi (fun v1 e1 => ?_)
  replace h := le1_at e1 h
  refine lv_istore (lv' := [(5, .int v1), (0, .ref (E.2.1 90)), (1, .ref (E.2.1 10)), (3, .ref (E.2.1 (a2 + 1)))]) C.1 C.2.1 dX5_readable_109 hl (by decide) rfl (fun ls hl => ?_)
  refine lv_iconst (v := (0 : Int32)) C.1 C.2.1 dX5_readable_111 (by decide) ?_
  refine lv_istore (lv' := [(6, .int (0 : Int32)), (5, .int v1), (0, .ref (E.2.1 90)), (1, .ref (E.2.1 10)), (3, .ref (E.2.1 (a2 + 1)))]) C.1 C.2.1 dX5_readable_112 hl (by decide) rfl (fun ls hl => ?_)
  exact w_X5_readable_114 C a2 ha2 5000 v1 (0 : Int32) S h _ _ _ hR (lv_sub hl [2, 3, 4, 1, 0] rfl)
def f_X5_readable_87 (a2 : Nat) (z0 : Int32) (z1 : Int32) (S : Hp) : Option (Int32 × Hp) :=
  le1 (z0 &&& z1) (fun v1 => ob2 (f_X5_take (1 : Int32) S) (fun r2 S2 => if (100 : Int32) < r2 then f_X5_readable_108 a2 v1 (0 : Int32) S2 else f_X5_readable_108 a2 v1 (1 : Int32) S2))
set_option maxHeartbeats 4000000 in
set_option maxRecDepth 100000 in
theorem w_X5_readable_87 {p : Program} {l : Launch} {e : Env} {s : State} {m : MethodId} {args : Array Value} {below : List Frame} {meth : Method} {c : Code} {E : Ev} {S0 : Hp} {r : (Int32 × Hp)} (C : ho_I p s m args meth c RX5 cX5_readable 7 (some .boolean)) (a2 : Nat) (ha2 : a2 ∈ yH.1 ∧ yH.2.1 a2 = (1, 2)) :
    ∀ (z0 : Int32) (z1 : Int32) (S : Hp), f_X5_readable_87 a2 z0 z1 S = some r → ho_G p l e s m args below meth c yH E S0 2 7 (some (.int r.1), r.2) 87 [(0, .ref (E.2.1 90)), (1, .ref (E.2.1 10)), (3, .ref (E.2.1 (a2 + 1)))] [.int z1, .int z0] S := by
  intro z0 z1 S h H locs ls hR hl
  unfold f_X5_readable_87 at h
  refine lv_iand C.1 C.2.1 dX5_readable_87 ?_
  refine lv_topi (fun v1 e1 => ?_)
  replace h := le1_at e1 h
  refine lv_istore (lv' := [(5, .int v1), (0, .ref (E.2.1 90)), (1, .ref (E.2.1 10)), (3, .ref (E.2.1 (a2 + 1)))]) C.1 C.2.1 dX5_readable_88 hl (by decide) rfl (fun ls hl => ?_)
  refine lv_iload C.1 C.2.1 dX5_readable_90 (lv_at hl 0 rfl) ?_
  refine lv_aload_n C.1 C.2.1 dX5_readable_92 rfl (lv_at hl 1 rfl) ?_
  refine lv_aload_n C.1 C.2.1 dX5_readable_93 rfl (lv_at hl 2 rfl) ?_
  refine lv_iconst (v := (1 : Int32)) C.1 C.2.1 dX5_readable_94 (by decide) ?_
  obtain ⟨r2, S2, h2, h⟩ := ob2_ok h
  refine hr_Vi (v := r2) (S' := S2) (As := [.ref (E.2.1 10), .int (1 : Int32)]) (rest := [.int v1]) C cf5 (c_X5_take l E (1 : Int32) _ _ h2) yv_X5_take lk_RX5_61 rfl aH_90 rfl rfl hl.1 (Nat.le_of_ble_eq_true rfl) (by decide) (by decide) hR (ho_A hR) dX5_readable_95 (fun H locs hR => ?_)
  refine lv_bipush (v := (100 : Int32)) C.1 C.2.1 dX5_readable_98 (by decide) ?_
  refine lv_icmp_gt (tgt := 107) C.1 C.2.1 dX5_readable_100 (by decide) (fun hc => ?_) (fun hc => ?_)
  · replace h := if_t h hc
    refine lv_iconst (v := (0 : Int32)) C.1 C.2.1 dX5_readable_107 (by decide) ?_
    exact w_X5_readable_108 C a2 ha2 v1 (0 : Int32) S2 h _ _ _ hR (lv_sub hl [1, 2, 3] rfl)
  · replace h := if_f h hc
    refine lv_iconst (v := (1 : Int32)) C.1 C.2.1 dX5_readable_103 (by decide) ?_
    refine lv_goto (tgt := 108) C.1 C.2.1 dX5_readable_104 (by decide) ?_
    exact w_X5_readable_108 C a2 ha2 v1 (1 : Int32) S2 h _ _ _ hR (lv_sub hl [1, 2, 3] rfl)
def f_X5_readable_67 (a2 : Nat) (z0 : Int32) (S : Hp) : Option (Int32 × Hp) :=
  ob2 (f_X5_take (3 : Int32) S) (fun r1 S1 => if (99999 : Int32) < r1 then f_X5_readable_87 a2 z0 (0 : Int32) S1 else f_X5_readable_87 a2 z0 (1 : Int32) S1)
set_option maxHeartbeats 4000000 in
set_option maxRecDepth 100000 in
theorem w_X5_readable_67 {p : Program} {l : Launch} {e : Env} {s : State} {m : MethodId} {args : Array Value} {below : List Frame} {meth : Method} {c : Code} {E : Ev} {S0 : Hp} {r : (Int32 × Hp)} (C : ho_I p s m args meth c RX5 cX5_readable 7 (some .boolean)) (a2 : Nat) (ha2 : a2 ∈ yH.1 ∧ yH.2.1 a2 = (1, 2)) :
    ∀ (z0 : Int32) (S : Hp), f_X5_readable_67 a2 z0 S = some r → ho_G p l e s m args below meth c yH E S0 2 7 (some (.int r.1), r.2) 67 [(0, .ref (E.2.1 90)), (1, .ref (E.2.1 10)), (3, .ref (E.2.1 (a2 + 1)))] [.int z0] S := by
  intro z0 S h H locs ls hR hl
  unfold f_X5_readable_67 at h
  refine lv_istore (lv' := [(5, .int z0), (0, .ref (E.2.1 90)), (1, .ref (E.2.1 10)), (3, .ref (E.2.1 (a2 + 1)))]) C.1 C.2.1 dX5_readable_67 hl (by decide) rfl (fun ls hl => ?_)
  refine lv_iload C.1 C.2.1 dX5_readable_69 (lv_at hl 0 rfl) ?_
  refine lv_aload_n C.1 C.2.1 dX5_readable_71 rfl (lv_at hl 1 rfl) ?_
  refine lv_aload_n C.1 C.2.1 dX5_readable_72 rfl (lv_at hl 2 rfl) ?_
  refine lv_iconst (v := (3 : Int32)) C.1 C.2.1 dX5_readable_73 (by decide) ?_
  obtain ⟨r1, S1, h1, h⟩ := ob2_ok h
  refine hr_Vi (v := r1) (S' := S1) (As := [.ref (E.2.1 10), .int (3 : Int32)]) (rest := [.int z0]) C cf5 (c_X5_take l E (3 : Int32) _ _ h1) yv_X5_take lk_RX5_61 rfl aH_90 rfl rfl hl.1 (Nat.le_of_ble_eq_true rfl) (by decide) (by decide) hR (ho_A hR) dX5_readable_74 (fun H locs hR => ?_)
  refine lv_ldc (v := (99999 : Int32)) C.1 C.2.1 C.2.2.2.2.1 (C.2.2.2.2.2.1 _ kc_RX5_65) dX5_readable_77 ?_
  refine lv_icmp_gt (tgt := 86) C.1 C.2.1 dX5_readable_79 (by decide) (fun hc => ?_) (fun hc => ?_)
  · replace h := if_t h hc
    refine lv_iconst (v := (0 : Int32)) C.1 C.2.1 dX5_readable_86 (by decide) ?_
    exact w_X5_readable_87 C a2 ha2 z0 (0 : Int32) S1 h _ _ _ hR (lv_sub hl [1, 2, 3] rfl)
  · replace h := if_f h hc
    refine lv_iconst (v := (1 : Int32)) C.1 C.2.1 dX5_readable_82 (by decide) ?_
    refine lv_goto (tgt := 87) C.1 C.2.1 dX5_readable_83 (by decide) ?_
    exact w_X5_readable_87 C a2 ha2 z0 (1 : Int32) S1 h _ _ _ hR (lv_sub hl [1, 2, 3] rfl)
def f_X5_readable (a2 : Nat) (S : Hp) : Option (Int32 × Hp) :=
  ldI S (a2 + 1) 3 (0 : Int32) (fun v1 => ldI S (a2 + 1) 3 (1 : Int32) (fun v2 => ldI S (a2 + 1) 3 (2 : Int32) (fun v3 => le1 (((((6 : Int32) + ((2 : Int32) * v1)) + ((4 : Int32) * v2)) + v3) + (1 : Int32)) (fun v4 => if (S.1 10 1) = v4 then ob2 (f_X5_isChecked S) (fun r5 S5 => if r5 = 0 then some ((0 : Int32), S5) else le1 (ho_sI S5 90 2 (0 : Int32)) (fun S6 => ob2 (f_X5_take (2 : Int32) S6) (fun r7 S7 => if (999 : Int32) < r7 then f_X5_readable_67 a2 (0 : Int32) S7 else f_X5_readable_67 a2 (1 : Int32) S7))) else some ((0 : Int32), S)))))
set_option maxHeartbeats 4000000 in
set_option maxRecDepth 100000 in
theorem c_X5_readable (l : Launch) (E : Ev) (a2 : Nat) (ha2 : a2 ∈ yH.1 ∧ yH.2.1 a2 = (1, 2)) (S : Hp) (r : (Int32 × Hp)) (h : f_X5_readable a2 S = some r) : ho_M l yH E yX5_readable cX5_readable 7 (some .boolean) 2 [.ref (E.2.1 90), .ref (E.2.1 10), .ref (E.2.1 a2)] S (some (.int r.1), r.2) := by
  refine ho_in (by decide) (Nat.le_of_ble_eq_true rfl) ?_
  intro p e s m args below meth c C hR ls hl
  have C : ho_I p s m args meth c RX5 cX5_readable 7 (some .boolean) := C
  have hl : lv_has ls 7 [(0, .ref (E.2.1 90)), (1, .ref (E.2.1 10)), (2, .ref (E.2.1 a2))] := hl
  unfold f_X5_readable at h
  refine lv_aload_n C.1 C.2.1 dX5_readable_0 rfl (lv_at hl 2 rfl) ?_
  refine ho_getR (a' := (a2 + 1)) C cf2 fH_RX5_37 hR ha2 (pH_2_5 ha2.2) dX5_readable_1 ?_
  refine lv_astore_n (lv' := [(3, .ref (E.2.1 (a2 + 1))), (0, .ref (E.2.1 90)), (1, .ref (E.2.1 10)), (2, .ref (E.2.1 a2))]) C.1 C.2.1 dX5_readable_4 rfl hl (by decide) rfl (fun ls hl => ?_)
  refine lv_bipush (v := (6 : Int32)) C.1 C.2.1 dX5_readable_5 (by decide) ?_
  refine lv_iconst (v := (2 : Int32)) C.1 C.2.1 dX5_readable_7 (by decide) ?_
  refine lv_aload_n C.1 C.2.1 dX5_readable_8 rfl (lv_at hl 0 rfl) ?_
  refine lv_iconst (v := (0 : Int32)) C.1 C.2.1 dX5_readable_9 (by decide) ?_
  obtain ⟨v1, e1, hi1, h⟩ := ldI_ok h
  refine hr_ild C hR (rH_2_1 ha2) hi1 e1 dX5_readable_10 ?_
  refine lv_imul C.1 C.2.1 dX5_readable_11 ?_
  refine lv_iadd C.1 C.2.1 dX5_readable_12 ?_
  refine lv_iconst (v := (4 : Int32)) C.1 C.2.1 dX5_readable_13 (by decide) ?_
  refine lv_aload_n C.1 C.2.1 dX5_readable_14 rfl (lv_at hl 0 rfl) ?_
  refine lv_iconst (v := (1 : Int32)) C.1 C.2.1 dX5_readable_15 (by decide) ?_
  obtain ⟨v2, e2, hi2, h⟩ := ldI_ok h
  refine hr_ild C hR (rH_2_1 ha2) hi2 e2 dX5_readable_16 ?_
  refine lv_imul C.1 C.2.1 dX5_readable_17 ?_
  refine lv_iadd C.1 C.2.1 dX5_readable_18 ?_
  refine lv_aload_n C.1 C.2.1 dX5_readable_19 rfl (lv_at hl 0 rfl) ?_
  refine lv_iconst (v := (2 : Int32)) C.1 C.2.1 dX5_readable_20 (by decide) ?_
  obtain ⟨v3, e3, hi3, h⟩ := ldI_ok h
  refine hr_ild C hR (rH_2_1 ha2) hi3 e3 dX5_readable_21 ?_
  refine lv_iadd C.1 C.2.1 dX5_readable_22 ?_
  refine lv_iconst (v := (1 : Int32)) C.1 C.2.1 dX5_readable_23 (by decide) ?_
  refine lv_iadd C.1 C.2.1 dX5_readable_24 ?_
  refine lv_topi (fun v4 e4 => ?_)
  replace h := le1_at e4 h
  refine lv_istore (lv' := [(4, .int v4), (3, .ref (E.2.1 (a2 + 1))), (0, .ref (E.2.1 90)), (1, .ref (E.2.1 10)), (2, .ref (E.2.1 a2))]) C.1 C.2.1 dX5_readable_25 hl (by decide) rfl (fun ls hl => ?_)
  refine lv_aload_n C.1 C.2.1 dX5_readable_27 rfl (lv_at hl 3 rfl) ?_
  refine ho_getI C cf10 fH_RX5_54 hR aH_10 dX5_readable_28 ?_
  refine lv_iload C.1 C.2.1 dX5_readable_31 (lv_at hl 0 rfl) ?_
  refine lv_icmp_ne (tgt := 43) C.1 C.2.1 dX5_readable_33 (by decide) (fun hc => ?_) (fun hc => ?_)
  · replace h := if_f h hc
    refine lv_iconst (v := (0 : Int32)) C.1 C.2.1 dX5_readable_43 (by decide) ?_
    exact ho_zret C hR (Or.inl rfl) h dX5_readable_44
  · replace h := if_t h hc
    refine lv_aload_n C.1 C.2.1 dX5_readable_36 rfl (lv_at hl 3 rfl) ?_
    obtain ⟨r5, S5, h5, h⟩ := ob2_ok h
    refine hr_Si (v := r5) (S' := S5) (As := [.ref (E.2.1 10)]) (rest := []) C (c_X5_isChecked l E _ _ h5) ys_X5_isChecked lk_RX5_57 rfl rfl hl.1 (Nat.le_of_ble_eq_true rfl) (by decide) (by decide) hR (ho_A hR) dX5_readable_37 (fun H locs hR => ?_)
    refine lv_if_ne (tgt := 45) C.1 C.2.1 dX5_readable_40 (by decide) (fun hc => ?_) (fun hc => ?_)
    · replace h := if_f h hc
      refine lv_aload_n C.1 C.2.1 dX5_readable_45 rfl (lv_at hl 2 rfl) ?_
      refine lv_iconst (v := (0 : Int32)) C.1 C.2.1 dX5_readable_46 (by decide) ?_
      obtain ⟨S6, e6, h⟩ := le1_ok h
      refine hr_putI C cf5 fH_RX5_19 hR aH_90 e6 dX5_readable_47 (fun H locs hR => ?_)
      refine lv_aload_n C.1 C.2.1 dX5_readable_50 rfl (lv_at hl 2 rfl) ?_
      refine lv_aload_n C.1 C.2.1 dX5_readable_51 rfl (lv_at hl 3 rfl) ?_
      refine lv_iconst (v := (2 : Int32)) C.1 C.2.1 dX5_readable_52 (by decide) ?_
      obtain ⟨r7, S7, h7, h⟩ := ob2_ok h
      refine hr_Vi (v := r7) (S' := S7) (As := [.ref (E.2.1 10), .int (2 : Int32)]) (rest := []) C cf5 (c_X5_take l E (2 : Int32) _ _ h7) yv_X5_take lk_RX5_61 rfl aH_90 rfl rfl hl.1 (Nat.le_of_ble_eq_true rfl) (by decide) (by decide) hR (ho_A hR) dX5_readable_53 (fun H locs hR => ?_)
      refine lv_sipush (v := (999 : Int32)) C.1 C.2.1 dX5_readable_56 (by decide) ?_
      refine lv_icmp_gt (tgt := 66) C.1 C.2.1 dX5_readable_59 (by decide) (fun hc => ?_) (fun hc => ?_)
      · replace h := if_t h hc
        refine lv_iconst (v := (0 : Int32)) C.1 C.2.1 dX5_readable_66 (by decide) ?_
        exact w_X5_readable_67 C a2 ha2 (0 : Int32) S7 h _ _ _ hR (lv_sub hl [2, 3, 1] rfl)
      · replace h := if_f h hc
        refine lv_iconst (v := (1 : Int32)) C.1 C.2.1 dX5_readable_62 (by decide) ?_
        refine lv_goto (tgt := 67) C.1 C.2.1 dX5_readable_63 (by decide) ?_
        exact w_X5_readable_67 C a2 ha2 (1 : Int32) S7 h _ _ _ hR (lv_sub hl [2, 3, 1] rfl)
    · replace h := if_t h hc
      refine lv_iconst (v := (0 : Int32)) C.1 C.2.1 dX5_readable_43 (by decide) ?_
      exact ho_zret C hR (Or.inl rfl) h dX5_readable_44
theorem dX5_read_0 : decode cX5_read 0 = .ok (.aload_n 0, 1) := by decide +kernel
theorem dX5_read_1 : decode cX5_read 1 = .ok (.iconst 0, 1) := by decide +kernel
theorem dX5_read_2 : decode cX5_read 2 = .ok (.putfield 19, 3) := by decide +kernel
theorem dX5_read_5 : decode cX5_read 5 = .ok (.aload_n 3, 1) := by decide +kernel
theorem dX5_read_6 : decode cX5_read 6 = .ok (.iconst 0, 1) := by decide +kernel
theorem dX5_read_7 : decode cX5_read 7 = .ok (.putfield 66, 3) := by decide +kernel
theorem dX5_read_10 : decode cX5_read 10 = .ok (.aload_n 3, 1) := by decide +kernel
theorem dX5_read_11 : decode cX5_read 11 = .ok (.aload_n 0, 1) := by decide +kernel
theorem dX5_read_12 : decode cX5_read 12 = .ok (.aload_n 1, 1) := by decide +kernel
theorem dX5_read_13 : decode cX5_read 13 = .ok (.iconst 2, 1) := by decide +kernel
theorem dX5_read_14 : decode cX5_read 14 = .ok (.invokevirtual 61, 3) := by decide +kernel
theorem dX5_read_17 : decode cX5_read 17 = .ok (.putfield 22, 3) := by decide +kernel
theorem dX5_read_20 : decode cX5_read 20 = .ok (.aload_n 3, 1) := by decide +kernel
theorem dX5_read_21 : decode cX5_read 21 = .ok (.aload_n 0, 1) := by decide +kernel
theorem dX5_read_22 : decode cX5_read 22 = .ok (.aload_n 1, 1) := by decide +kernel
theorem dX5_read_23 : decode cX5_read 23 = .ok (.iconst 3, 1) := by decide +kernel
theorem dX5_read_24 : decode cX5_read 24 = .ok (.invokevirtual 61, 3) := by decide +kernel
theorem dX5_read_27 : decode cX5_read 27 = .ok (.putfield 31, 3) := by decide +kernel
theorem dX5_read_30 : decode cX5_read 30 = .ok (.aload_n 3, 1) := by decide +kernel
theorem dX5_read_31 : decode cX5_read 31 = .ok (.aload_n 0, 1) := by decide +kernel
theorem dX5_read_32 : decode cX5_read 32 = .ok (.aload_n 1, 1) := by decide +kernel
theorem dX5_read_33 : decode cX5_read 33 = .ok (.iconst 1, 1) := by decide +kernel
theorem dX5_read_34 : decode cX5_read 34 = .ok (.invokevirtual 61, 3) := by decide +kernel
theorem dX5_read_37 : decode cX5_read 37 = .ok (.putfield 34, 3) := by decide +kernel
theorem dX5_read_40 : decode cX5_read 40 = .ok (.iconst 0, 1) := by decide +kernel
theorem dX5_read_41 : decode cX5_read 41 = .ok (.istore 4, 2) := by decide +kernel
theorem dX5_read_43 : decode cX5_read 43 = .ok (.iload 4, 2) := by decide +kernel
theorem dX5_read_45 : decode cX5_read 45 = .ok (.aload_n 2, 1) := by decide +kernel
theorem dX5_read_46 : decode cX5_read 46 = .ok (.getfield 37, 3) := by decide +kernel
theorem dX5_read_49 : decode cX5_read 49 = .ok (.iconst 0, 1) := by decide +kernel
theorem dX5_read_50 : decode cX5_read 50 = .ok (.iaload, 1) := by decide +kernel
theorem dX5_read_51 : decode cX5_read 51 = .ok (.if_icmp .ge 22, 3) := by decide +kernel
theorem dX5_read_54 : decode cX5_read 54 = .ok (.aload_n 3, 1) := by decide +kernel
theorem dX5_read_55 : decode cX5_read 55 = .ok (.getfield 42, 3) := by decide +kernel
theorem dX5_read_58 : decode cX5_read 58 = .ok (.iload 4, 2) := by decide +kernel
theorem dX5_read_60 : decode cX5_read 60 = .ok (.aload_n 0, 1) := by decide +kernel
theorem dX5_read_61 : decode cX5_read 61 = .ok (.aload_n 1, 1) := by decide +kernel
theorem dX5_read_62 : decode cX5_read 62 = .ok (.iconst 2, 1) := by decide +kernel
theorem dX5_read_63 : decode cX5_read 63 = .ok (.invokevirtual 61, 3) := by decide +kernel
theorem dX5_read_66 : decode cX5_read 66 = .ok (.iastore, 1) := by decide +kernel
theorem dX5_read_67 : decode cX5_read 67 = .ok (.iinc 4 1, 3) := by decide +kernel
theorem dX5_read_70 : decode cX5_read 70 = .ok (.goto (-27), 3) := by decide +kernel
theorem dX5_read_73 : decode cX5_read 73 = .ok (.iconst 0, 1) := by decide +kernel
theorem dX5_read_74 : decode cX5_read 74 = .ok (.istore 4, 2) := by decide +kernel
theorem dX5_read_76 : decode cX5_read 76 = .ok (.iload 4, 2) := by decide +kernel
theorem dX5_read_78 : decode cX5_read 78 = .ok (.aload_n 2, 1) := by decide +kernel
theorem dX5_read_79 : decode cX5_read 79 = .ok (.getfield 37, 3) := by decide +kernel
theorem dX5_read_82 : decode cX5_read 82 = .ok (.iconst 1, 1) := by decide +kernel
theorem dX5_read_83 : decode cX5_read 83 = .ok (.iaload, 1) := by decide +kernel
theorem dX5_read_84 : decode cX5_read 84 = .ok (.if_icmp .ge 35, 3) := by decide +kernel
theorem dX5_read_87 : decode cX5_read 87 = .ok (.aload_n 3, 1) := by decide +kernel
theorem dX5_read_88 : decode cX5_read 88 = .ok (.getfield 45, 3) := by decide +kernel
theorem dX5_read_91 : decode cX5_read 91 = .ok (.iload 4, 2) := by decide +kernel
theorem dX5_read_93 : decode cX5_read 93 = .ok (.aload_n 0, 1) := by decide +kernel
theorem dX5_read_94 : decode cX5_read 94 = .ok (.aload_n 1, 1) := by decide +kernel
theorem dX5_read_95 : decode cX5_read 95 = .ok (.iconst 2, 1) := by decide +kernel
theorem dX5_read_96 : decode cX5_read 96 = .ok (.invokevirtual 61, 3) := by decide +kernel
theorem dX5_read_99 : decode cX5_read 99 = .ok (.iastore, 1) := by decide +kernel
theorem dX5_read_100 : decode cX5_read 100 = .ok (.aload_n 3, 1) := by decide +kernel
theorem dX5_read_101 : decode cX5_read 101 = .ok (.getfield 48, 3) := by decide +kernel
theorem dX5_read_104 : decode cX5_read 104 = .ok (.iload 4, 2) := by decide +kernel
theorem dX5_read_106 : decode cX5_read 106 = .ok (.aload_n 0, 1) := by decide +kernel
theorem dX5_read_107 : decode cX5_read 107 = .ok (.aload_n 1, 1) := by decide +kernel
theorem dX5_read_108 : decode cX5_read 108 = .ok (.iconst 2, 1) := by decide +kernel
theorem dX5_read_109 : decode cX5_read 109 = .ok (.invokevirtual 61, 3) := by decide +kernel
theorem dX5_read_112 : decode cX5_read 112 = .ok (.iastore, 1) := by decide +kernel
theorem dX5_read_113 : decode cX5_read 113 = .ok (.iinc 4 1, 3) := by decide +kernel
theorem dX5_read_116 : decode cX5_read 116 = .ok (.goto (-40), 3) := by decide +kernel
theorem dX5_read_119 : decode cX5_read 119 = .ok (.iconst 0, 1) := by decide +kernel
theorem dX5_read_120 : decode cX5_read 120 = .ok (.istore 4, 2) := by decide +kernel
theorem dX5_read_122 : decode cX5_read 122 = .ok (.iload 4, 2) := by decide +kernel
theorem dX5_read_124 : decode cX5_read 124 = .ok (.aload_n 2, 1) := by decide +kernel
theorem dX5_read_125 : decode cX5_read 125 = .ok (.getfield 37, 3) := by decide +kernel
theorem dX5_read_128 : decode cX5_read 128 = .ok (.iconst 2, 1) := by decide +kernel
theorem dX5_read_129 : decode cX5_read 129 = .ok (.iaload, 1) := by decide +kernel
theorem dX5_read_130 : decode cX5_read 130 = .ok (.if_icmp .ge 22, 3) := by decide +kernel
theorem dX5_read_133 : decode cX5_read 133 = .ok (.aload_n 3, 1) := by decide +kernel
theorem dX5_read_134 : decode cX5_read 134 = .ok (.getfield 51, 3) := by decide +kernel
theorem dX5_read_137 : decode cX5_read 137 = .ok (.iload 4, 2) := by decide +kernel
theorem dX5_read_139 : decode cX5_read 139 = .ok (.aload_n 0, 1) := by decide +kernel
theorem dX5_read_140 : decode cX5_read 140 = .ok (.aload_n 1, 1) := by decide +kernel
theorem dX5_read_141 : decode cX5_read 141 = .ok (.iconst 1, 1) := by decide +kernel
theorem dX5_read_142 : decode cX5_read 142 = .ok (.invokevirtual 61, 3) := by decide +kernel
theorem dX5_read_145 : decode cX5_read 145 = .ok (.iastore, 1) := by decide +kernel
theorem dX5_read_146 : decode cX5_read 146 = .ok (.iinc 4 1, 3) := by decide +kernel
theorem dX5_read_149 : decode cX5_read 149 = .ok (.goto (-27), 3) := by decide +kernel
theorem dX5_read_152 : decode cX5_read 152 = .ok (.return_, 1) := by decide +kernel
def f_X5_read_122 (a2 : Nat) (a3 : Nat) : Nat → Int32 → Hp → Option Hp
  | 0, _, _ => none
  | k + 1, x4, S => ldI S (a2 + 1) 3 (2 : Int32) (fun v1 => if v1 ≤ x4 then some S else ob2 (f_X5_take (1 : Int32) S) (fun r2 S2 => stI S2 (a3 + 4) 5 x4 r2 (fun S3 => le1 (x4 + (1 : Int32)) (fun v4 => f_X5_read_122 a2 a3 k v4 S3))))
set_option maxHeartbeats 4000000 in
set_option maxRecDepth 100000 in
theorem w_X5_read_122 {p : Program} {l : Launch} {e : Env} {s : State} {m : MethodId} {args : Array Value} {below : List Frame} {meth : Method} {c : Code} {E : Ev} {S0 : Hp} {r : Hp} (C : ho_I p s m args meth c RX5 cX5_read 5 none) (a2 : Nat) (a3 : Nat) (ha2 : a2 ∈ yH.1 ∧ yH.2.1 a2 = (1, 2)) (ha3 : a3 ∈ yH.1 ∧ yH.2.1 a3 = (1, 9)) :
    ∀ (k : Nat) (x4 : Int32) (S : Hp), f_X5_read_122 a2 a3 k x4 S = some r → ho_G p l e s m args below meth c yH E S0 2 5 (none, r) 122 [(0, .ref (E.2.1 90)), (1, .ref (E.2.1 10)), (2, .ref (E.2.1 a2)), (3, .ref (E.2.1 a3)), (4, .int x4)] [] S := by
  intro k
  induction k with
  | zero =>
    intro x4 S h
    exact absurd (show (none : Option Hp) = some r from h) (by simp)
  | succ k ih =>
    intro x4 S h H locs ls hR hl
    rw [f_X5_read_122] at h
    refine lv_iload C.1 C.2.1 dX5_read_122 (lv_at hl 4 rfl) ?_
    refine lv_aload_n C.1 C.2.1 dX5_read_124 rfl (lv_at hl 2 rfl) ?_
    refine ho_getR (a' := (a2 + 1)) C cf2 fH_RX5_37 hR ha2 (pH_2_5 ha2.2) dX5_read_125 ?_
    refine lv_iconst (v := (2 : Int32)) C.1 C.2.1 dX5_read_128 (by decide) ?_
    obtain ⟨v1, e1, hi1, h⟩ := ldI_ok h
    refine hr_ild C hR (rH_2_1 ha2) hi1 e1 dX5_read_129 ?_
    refine lv_icmp_ge (tgt := 152) C.1 C.2.1 dX5_read_130 (by decide) (fun hc => ?_) (fun hc => ?_)
    · replace h := if_t h hc
      exact ho_vret C hR h dX5_read_152
    · replace h := if_f h hc
      refine lv_aload_n C.1 C.2.1 dX5_read_133 rfl (lv_at hl 3 rfl) ?_
      refine ho_getR (a' := (a3 + 4)) C cf9 fH_RX5_51 hR ha3 (pH_9_6 ha3.2) dX5_read_134 ?_
      refine lv_iload C.1 C.2.1 dX5_read_137 (lv_at hl 4 rfl) ?_
      refine lv_aload_n C.1 C.2.1 dX5_read_139 rfl (lv_at hl 0 rfl) ?_
      refine lv_aload_n C.1 C.2.1 dX5_read_140 rfl (lv_at hl 1 rfl) ?_
      refine lv_iconst (v := (1 : Int32)) C.1 C.2.1 dX5_read_141 (by decide) ?_
      obtain ⟨r2, S2, h2, h⟩ := ob2_ok h
      refine hr_Vi (v := r2) (S' := S2) (As := [.ref (E.2.1 10), .int (1 : Int32)]) (rest := [.int x4, .ref (E.2.1 (a3 + 4))]) C cf5 (c_X5_take l E (1 : Int32) _ _ h2) yv_X5_take lk_RX5_61 rfl aH_90 rfl rfl hl.1 (Nat.le_of_ble_eq_true rfl) (by decide) (by decide) hR (ho_A hR) dX5_read_142 (fun H locs hR => ?_)
      obtain ⟨S3, e3, hi3, h⟩ := stI_ok h
      refine hr_ist C hR (rH_9_4 ha3) hi3 e3 dX5_read_145 (fun H locs hR => ?_)
      obtain ⟨v4, e4, h⟩ := le1_ok h
      refine lv_iinc (v := v4) (lv' := [(4, .int v4), (0, .ref (E.2.1 90)), (1, .ref (E.2.1 10)), (2, .ref (E.2.1 a2)), (3, .ref (E.2.1 a3))]) C.1 C.2.1 dX5_read_146 hl (k := 4) rfl (by rw [e4]; rfl) (by decide) rfl (fun ls hl => ?_)
      refine lv_goto (tgt := 122) C.1 C.2.1 dX5_read_149 (by decide) ?_
      exact ih v4 S3 h _ _ _ hR (lv_sub hl [1, 2, 3, 4, 0] rfl)
def f_X5_read_76 (a2 : Nat) (a3 : Nat) : Nat → Int32 → Hp → Option Hp
  | 0, _, _ => none
  | k + 1, x4, S => ldI S (a2 + 1) 3 (1 : Int32) (fun v1 => if v1 ≤ x4 then f_X5_read_122 a2 a3 5000 (0 : Int32) S else ob2 (f_X5_take (2 : Int32) S) (fun r2 S2 => stI S2 (a3 + 2) 6 x4 r2 (fun S3 => ob2 (f_X5_take (2 : Int32) S3) (fun r4 S4 => stI S4 (a3 + 3) 6 x4 r4 (fun S5 => le1 (x4 + (1 : Int32)) (fun v6 => f_X5_read_76 a2 a3 k v6 S5))))))
set_option maxHeartbeats 4000000 in
set_option maxRecDepth 100000 in
theorem w_X5_read_76 {p : Program} {l : Launch} {e : Env} {s : State} {m : MethodId} {args : Array Value} {below : List Frame} {meth : Method} {c : Code} {E : Ev} {S0 : Hp} {r : Hp} (C : ho_I p s m args meth c RX5 cX5_read 5 none) (a2 : Nat) (a3 : Nat) (ha2 : a2 ∈ yH.1 ∧ yH.2.1 a2 = (1, 2)) (ha3 : a3 ∈ yH.1 ∧ yH.2.1 a3 = (1, 9)) :
    ∀ (k : Nat) (x4 : Int32) (S : Hp), f_X5_read_76 a2 a3 k x4 S = some r → ho_G p l e s m args below meth c yH E S0 2 5 (none, r) 76 [(0, .ref (E.2.1 90)), (1, .ref (E.2.1 10)), (2, .ref (E.2.1 a2)), (3, .ref (E.2.1 a3)), (4, .int x4)] [] S := by
  intro k
  induction k with
  | zero =>
    intro x4 S h
    exact absurd (show (none : Option Hp) = some r from h) (by simp)
  | succ k ih =>
    intro x4 S h H locs ls hR hl
    rw [f_X5_read_76] at h
    refine lv_iload C.1 C.2.1 dX5_read_76 (lv_at hl 4 rfl) ?_
    refine lv_aload_n C.1 C.2.1 dX5_read_78 rfl (lv_at hl 2 rfl) ?_
    refine ho_getR (a' := (a2 + 1)) C cf2 fH_RX5_37 hR ha2 (pH_2_5 ha2.2) dX5_read_79 ?_
    refine lv_iconst (v := (1 : Int32)) C.1 C.2.1 dX5_read_82 (by decide) ?_
    obtain ⟨v1, e1, hi1, h⟩ := ldI_ok h
    refine hr_ild C hR (rH_2_1 ha2) hi1 e1 dX5_read_83 ?_
    refine lv_icmp_ge (tgt := 119) C.1 C.2.1 dX5_read_84 (by decide) (fun hc => ?_) (fun hc => ?_)
    · replace h := if_t h hc
      refine lv_iconst (v := (0 : Int32)) C.1 C.2.1 dX5_read_119 (by decide) ?_
      refine lv_istore (lv' := [(4, .int (0 : Int32)), (0, .ref (E.2.1 90)), (1, .ref (E.2.1 10)), (2, .ref (E.2.1 a2)), (3, .ref (E.2.1 a3))]) C.1 C.2.1 dX5_read_120 hl (by decide) rfl (fun ls hl => ?_)
      exact w_X5_read_122 C a2 a3 ha2 ha3 5000 (0 : Int32) S h _ _ _ hR (lv_sub hl [1, 2, 3, 4, 0] rfl)
    · replace h := if_f h hc
      refine lv_aload_n C.1 C.2.1 dX5_read_87 rfl (lv_at hl 3 rfl) ?_
      refine ho_getR (a' := (a3 + 2)) C cf9 fH_RX5_45 hR ha3 (pH_9_4 ha3.2) dX5_read_88 ?_
      refine lv_iload C.1 C.2.1 dX5_read_91 (lv_at hl 4 rfl) ?_
      refine lv_aload_n C.1 C.2.1 dX5_read_93 rfl (lv_at hl 0 rfl) ?_
      refine lv_aload_n C.1 C.2.1 dX5_read_94 rfl (lv_at hl 1 rfl) ?_
      refine lv_iconst (v := (2 : Int32)) C.1 C.2.1 dX5_read_95 (by decide) ?_
      obtain ⟨r2, S2, h2, h⟩ := ob2_ok h
      refine hr_Vi (v := r2) (S' := S2) (As := [.ref (E.2.1 10), .int (2 : Int32)]) (rest := [.int x4, .ref (E.2.1 (a3 + 2))]) C cf5 (c_X5_take l E (2 : Int32) _ _ h2) yv_X5_take lk_RX5_61 rfl aH_90 rfl rfl hl.1 (Nat.le_of_ble_eq_true rfl) (by decide) (by decide) hR (ho_A hR) dX5_read_96 (fun H locs hR => ?_)
      obtain ⟨S3, e3, hi3, h⟩ := stI_ok h
      refine hr_ist C hR (rH_9_2 ha3) hi3 e3 dX5_read_99 (fun H locs hR => ?_)
      refine lv_aload_n C.1 C.2.1 dX5_read_100 rfl (lv_at hl 3 rfl) ?_
      refine ho_getR (a' := (a3 + 3)) C cf9 fH_RX5_48 hR ha3 (pH_9_5 ha3.2) dX5_read_101 ?_
      refine lv_iload C.1 C.2.1 dX5_read_104 (lv_at hl 4 rfl) ?_
      refine lv_aload_n C.1 C.2.1 dX5_read_106 rfl (lv_at hl 0 rfl) ?_
      refine lv_aload_n C.1 C.2.1 dX5_read_107 rfl (lv_at hl 1 rfl) ?_
      refine lv_iconst (v := (2 : Int32)) C.1 C.2.1 dX5_read_108 (by decide) ?_
      obtain ⟨r4, S4, h4, h⟩ := ob2_ok h
      refine hr_Vi (v := r4) (S' := S4) (As := [.ref (E.2.1 10), .int (2 : Int32)]) (rest := [.int x4, .ref (E.2.1 (a3 + 3))]) C cf5 (c_X5_take l E (2 : Int32) _ _ h4) yv_X5_take lk_RX5_61 rfl aH_90 rfl rfl hl.1 (Nat.le_of_ble_eq_true rfl) (by decide) (by decide) hR (ho_A hR) dX5_read_109 (fun H locs hR => ?_)
      obtain ⟨S5, e5, hi5, h⟩ := stI_ok h
      refine hr_ist C hR (rH_9_3 ha3) hi5 e5 dX5_read_112 (fun H locs hR => ?_)
      obtain ⟨v6, e6, h⟩ := le1_ok h
      refine lv_iinc (v := v6) (lv' := [(4, .int v6), (0, .ref (E.2.1 90)), (1, .ref (E.2.1 10)), (2, .ref (E.2.1 a2)), (3, .ref (E.2.1 a3))]) C.1 C.2.1 dX5_read_113 hl (k := 4) rfl (by rw [e6]; rfl) (by decide) rfl (fun ls hl => ?_)
      refine lv_goto (tgt := 76) C.1 C.2.1 dX5_read_116 (by decide) ?_
      exact ih v6 S5 h _ _ _ hR (lv_sub hl [1, 2, 3, 4, 0] rfl)
def f_X5_read_43 (a2 : Nat) (a3 : Nat) : Nat → Int32 → Hp → Option Hp
  | 0, _, _ => none
  | k + 1, x4, S => ldI S (a2 + 1) 3 (0 : Int32) (fun v1 => if v1 ≤ x4 then f_X5_read_76 a2 a3 5000 (0 : Int32) S else ob2 (f_X5_take (2 : Int32) S) (fun r2 S2 => stI S2 (a3 + 1) 6 x4 r2 (fun S3 => le1 (x4 + (1 : Int32)) (fun v4 => f_X5_read_43 a2 a3 k v4 S3))))
set_option maxHeartbeats 4000000 in
set_option maxRecDepth 100000 in
theorem w_X5_read_43 {p : Program} {l : Launch} {e : Env} {s : State} {m : MethodId} {args : Array Value} {below : List Frame} {meth : Method} {c : Code} {E : Ev} {S0 : Hp} {r : Hp} (C : ho_I p s m args meth c RX5 cX5_read 5 none) (a2 : Nat) (a3 : Nat) (ha2 : a2 ∈ yH.1 ∧ yH.2.1 a2 = (1, 2)) (ha3 : a3 ∈ yH.1 ∧ yH.2.1 a3 = (1, 9)) :
    ∀ (k : Nat) (x4 : Int32) (S : Hp), f_X5_read_43 a2 a3 k x4 S = some r → ho_G p l e s m args below meth c yH E S0 2 5 (none, r) 43 [(0, .ref (E.2.1 90)), (1, .ref (E.2.1 10)), (2, .ref (E.2.1 a2)), (3, .ref (E.2.1 a3)), (4, .int x4)] [] S := by
  intro k
  induction k with
  | zero =>
    intro x4 S h
    exact absurd (show (none : Option Hp) = some r from h) (by simp)
  | succ k ih =>
    intro x4 S h H locs ls hR hl
    rw [f_X5_read_43] at h
    refine lv_iload C.1 C.2.1 dX5_read_43 (lv_at hl 4 rfl) ?_
    refine lv_aload_n C.1 C.2.1 dX5_read_45 rfl (lv_at hl 2 rfl) ?_
    refine ho_getR (a' := (a2 + 1)) C cf2 fH_RX5_37 hR ha2 (pH_2_5 ha2.2) dX5_read_46 ?_
    refine lv_iconst (v := (0 : Int32)) C.1 C.2.1 dX5_read_49 (by decide) ?_
    obtain ⟨v1, e1, hi1, h⟩ := ldI_ok h
    refine hr_ild C hR (rH_2_1 ha2) hi1 e1 dX5_read_50 ?_
    refine lv_icmp_ge (tgt := 73) C.1 C.2.1 dX5_read_51 (by decide) (fun hc => ?_) (fun hc => ?_)
    · replace h := if_t h hc
      refine lv_iconst (v := (0 : Int32)) C.1 C.2.1 dX5_read_73 (by decide) ?_
      refine lv_istore (lv' := [(4, .int (0 : Int32)), (0, .ref (E.2.1 90)), (1, .ref (E.2.1 10)), (2, .ref (E.2.1 a2)), (3, .ref (E.2.1 a3))]) C.1 C.2.1 dX5_read_74 hl (by decide) rfl (fun ls hl => ?_)
      exact w_X5_read_76 C a2 a3 ha2 ha3 5000 (0 : Int32) S h _ _ _ hR (lv_sub hl [1, 2, 3, 4, 0] rfl)
    · replace h := if_f h hc
      refine lv_aload_n C.1 C.2.1 dX5_read_54 rfl (lv_at hl 3 rfl) ?_
      refine ho_getR (a' := (a3 + 1)) C cf9 fH_RX5_42 hR ha3 (pH_9_3 ha3.2) dX5_read_55 ?_
      refine lv_iload C.1 C.2.1 dX5_read_58 (lv_at hl 4 rfl) ?_
      refine lv_aload_n C.1 C.2.1 dX5_read_60 rfl (lv_at hl 0 rfl) ?_
      refine lv_aload_n C.1 C.2.1 dX5_read_61 rfl (lv_at hl 1 rfl) ?_
      refine lv_iconst (v := (2 : Int32)) C.1 C.2.1 dX5_read_62 (by decide) ?_
      obtain ⟨r2, S2, h2, h⟩ := ob2_ok h
      refine hr_Vi (v := r2) (S' := S2) (As := [.ref (E.2.1 10), .int (2 : Int32)]) (rest := [.int x4, .ref (E.2.1 (a3 + 1))]) C cf5 (c_X5_take l E (2 : Int32) _ _ h2) yv_X5_take lk_RX5_61 rfl aH_90 rfl rfl hl.1 (Nat.le_of_ble_eq_true rfl) (by decide) (by decide) hR (ho_A hR) dX5_read_63 (fun H locs hR => ?_)
      obtain ⟨S3, e3, hi3, h⟩ := stI_ok h
      refine hr_ist C hR (rH_9_1 ha3) hi3 e3 dX5_read_66 (fun H locs hR => ?_)
      obtain ⟨v4, e4, h⟩ := le1_ok h
      refine lv_iinc (v := v4) (lv' := [(4, .int v4), (0, .ref (E.2.1 90)), (1, .ref (E.2.1 10)), (2, .ref (E.2.1 a2)), (3, .ref (E.2.1 a3))]) C.1 C.2.1 dX5_read_67 hl (k := 4) rfl (by rw [e4]; rfl) (by decide) rfl (fun ls hl => ?_)
      refine lv_goto (tgt := 43) C.1 C.2.1 dX5_read_70 (by decide) ?_
      exact ih v4 S3 h _ _ _ hR (lv_sub hl [1, 2, 3, 4, 0] rfl)
def f_X5_read (a2 : Nat) (a3 : Nat) (S : Hp) : Option Hp :=
  le1 (ho_sI S 90 2 (0 : Int32)) (fun S1 => le1 (ho_sI S1 a3 7 (0 : Int32)) (fun S2 => ob2 (f_X5_take (2 : Int32) S2) (fun r3 S3 => le1 (ho_sI S3 a3 0 r3) (fun S4 => ob2 (f_X5_take (3 : Int32) S4) (fun r5 S5 => le1 (ho_sI S5 a3 1 r5) (fun S6 => ob2 (f_X5_take (1 : Int32) S6) (fun r7 S7 => le1 (ho_sI S7 a3 2 r7) (fun S8 => f_X5_read_43 a2 a3 5000 (0 : Int32) S8))))))))
set_option maxHeartbeats 4000000 in
set_option maxRecDepth 100000 in
theorem c_X5_read (l : Launch) (E : Ev) (a2 : Nat) (a3 : Nat) (ha2 : a2 ∈ yH.1 ∧ yH.2.1 a2 = (1, 2)) (ha3 : a3 ∈ yH.1 ∧ yH.2.1 a3 = (1, 9)) (S : Hp) (r : Hp) (h : f_X5_read a2 a3 S = some r) : ho_M l yH E yX5_read cX5_read 5 none 2 [.ref (E.2.1 90), .ref (E.2.1 10), .ref (E.2.1 a2), .ref (E.2.1 a3)] S (none, r) := by
  refine ho_in (by decide) (Nat.le_of_ble_eq_true rfl) ?_
  intro p e s m args below meth c C hR ls hl
  have C : ho_I p s m args meth c RX5 cX5_read 5 none := C
  have hl : lv_has ls 5 [(0, .ref (E.2.1 90)), (1, .ref (E.2.1 10)), (2, .ref (E.2.1 a2)), (3, .ref (E.2.1 a3))] := hl
  unfold f_X5_read at h
  refine lv_aload_n C.1 C.2.1 dX5_read_0 rfl (lv_at hl 0 rfl) ?_
  refine lv_iconst (v := (0 : Int32)) C.1 C.2.1 dX5_read_1 (by decide) ?_
  obtain ⟨S1, e1, h⟩ := le1_ok h
  refine hr_putI C cf5 fH_RX5_19 hR aH_90 e1 dX5_read_2 (fun H locs hR => ?_)
  refine lv_aload_n C.1 C.2.1 dX5_read_5 rfl (lv_at hl 3 rfl) ?_
  refine lv_iconst (v := (0 : Int32)) C.1 C.2.1 dX5_read_6 (by decide) ?_
  obtain ⟨S2, e2, h⟩ := le1_ok h
  refine hr_putI C cf9 fH_RX5_66 hR ha3 e2 dX5_read_7 (fun H locs hR => ?_)
  refine lv_aload_n C.1 C.2.1 dX5_read_10 rfl (lv_at hl 3 rfl) ?_
  refine lv_aload_n C.1 C.2.1 dX5_read_11 rfl (lv_at hl 0 rfl) ?_
  refine lv_aload_n C.1 C.2.1 dX5_read_12 rfl (lv_at hl 1 rfl) ?_
  refine lv_iconst (v := (2 : Int32)) C.1 C.2.1 dX5_read_13 (by decide) ?_
  obtain ⟨r3, S3, h3, h⟩ := ob2_ok h
  refine hr_Vi (v := r3) (S' := S3) (As := [.ref (E.2.1 10), .int (2 : Int32)]) (rest := [.ref (E.2.1 a3)]) C cf5 (c_X5_take l E (2 : Int32) _ _ h3) yv_X5_take lk_RX5_61 rfl aH_90 rfl rfl hl.1 (Nat.le_of_ble_eq_true rfl) (by decide) (by decide) hR (ho_A hR) dX5_read_14 (fun H locs hR => ?_)
  obtain ⟨S4, e4, h⟩ := le1_ok h
  refine hr_putI C cf9 fH_RX5_22 hR ha3 e4 dX5_read_17 (fun H locs hR => ?_)
  refine lv_aload_n C.1 C.2.1 dX5_read_20 rfl (lv_at hl 3 rfl) ?_
  refine lv_aload_n C.1 C.2.1 dX5_read_21 rfl (lv_at hl 0 rfl) ?_
  refine lv_aload_n C.1 C.2.1 dX5_read_22 rfl (lv_at hl 1 rfl) ?_
  refine lv_iconst (v := (3 : Int32)) C.1 C.2.1 dX5_read_23 (by decide) ?_
  obtain ⟨r5, S5, h5, h⟩ := ob2_ok h
  refine hr_Vi (v := r5) (S' := S5) (As := [.ref (E.2.1 10), .int (3 : Int32)]) (rest := [.ref (E.2.1 a3)]) C cf5 (c_X5_take l E (3 : Int32) _ _ h5) yv_X5_take lk_RX5_61 rfl aH_90 rfl rfl hl.1 (Nat.le_of_ble_eq_true rfl) (by decide) (by decide) hR (ho_A hR) dX5_read_24 (fun H locs hR => ?_)
  obtain ⟨S6, e6, h⟩ := le1_ok h
  refine hr_putI C cf9 fH_RX5_31 hR ha3 e6 dX5_read_27 (fun H locs hR => ?_)
  refine lv_aload_n C.1 C.2.1 dX5_read_30 rfl (lv_at hl 3 rfl) ?_
  refine lv_aload_n C.1 C.2.1 dX5_read_31 rfl (lv_at hl 0 rfl) ?_
  refine lv_aload_n C.1 C.2.1 dX5_read_32 rfl (lv_at hl 1 rfl) ?_
  refine lv_iconst (v := (1 : Int32)) C.1 C.2.1 dX5_read_33 (by decide) ?_
  obtain ⟨r7, S7, h7, h⟩ := ob2_ok h
  refine hr_Vi (v := r7) (S' := S7) (As := [.ref (E.2.1 10), .int (1 : Int32)]) (rest := [.ref (E.2.1 a3)]) C cf5 (c_X5_take l E (1 : Int32) _ _ h7) yv_X5_take lk_RX5_61 rfl aH_90 rfl rfl hl.1 (Nat.le_of_ble_eq_true rfl) (by decide) (by decide) hR (ho_A hR) dX5_read_34 (fun H locs hR => ?_)
  obtain ⟨S8, e8, h⟩ := le1_ok h
  refine hr_putI C cf9 fH_RX5_34 hR ha3 e8 dX5_read_37 (fun H locs hR => ?_)
  refine lv_iconst (v := (0 : Int32)) C.1 C.2.1 dX5_read_40 (by decide) ?_
  refine lv_istore (lv' := [(4, .int (0 : Int32)), (0, .ref (E.2.1 90)), (1, .ref (E.2.1 10)), (2, .ref (E.2.1 a2)), (3, .ref (E.2.1 a3))]) C.1 C.2.1 dX5_read_41 hl (by decide) rfl (fun ls hl => ?_)
  exact w_X5_read_43 C a2 a3 ha2 ha3 5000 (0 : Int32) S8 h _ _ _ hR (lv_sub hl [1, 2, 3, 4, 0] rfl)
theorem dX7_readTest_0 : decode cX7_readTest 0 = .ok (.aload_n 0, 1) := by decide +kernel
theorem dX7_readTest_1 : decode cX7_readTest 1 = .ok (.aload_n 1, 1) := by decide +kernel
theorem dX7_readTest_2 : decode cX7_readTest 2 = .ok (.iload_n 2, 1) := by decide +kernel
theorem dX7_readTest_3 : decode cX7_readTest 3 = .ok (.invokevirtual 23, 3) := by decide +kernel
theorem dX7_readTest_6 : decode cX7_readTest 6 = .ok (.aload_n 0, 1) := by decide +kernel
theorem dX7_readTest_7 : decode cX7_readTest 7 = .ok (.iconst 0, 1) := by decide +kernel
theorem dX7_readTest_8 : decode cX7_readTest 8 = .ok (.invokevirtual 31, 3) := by decide +kernel
theorem dX7_readTest_11 : decode cX7_readTest 11 = .ok (.ireturn, 1) := by decide +kernel
def f_X7_readTest (a0 : Nat) (a1 : Nat) (x2 : Int32) (S : Hp) : Option (Int32 × Hp) :=
  ob (f_X7_aim a0 a1 x2 S) (fun S1 => ob2 (grpH 60 0 a0 (0 : Int32) S1) (fun r2 S2 => tr r2 (some (r2, S2))))
set_option maxHeartbeats 4000000 in
set_option maxRecDepth 100000 in
theorem c_X7_readTest (l : Launch) (E : Ev) (a0 : Nat) (a1 : Nat) (x2 : Int32) (ha0 : a0 ∈ yH.1 ∧ yH.2.1 a0 = (1, 7)) (ha1 : a1 ∈ yH.1 ∧ yH.2.1 a1 = (1, 4)) (S : Hp) (r : (Int32 × Hp)) (h : f_X7_readTest a0 a1 x2 S = some r) : ho_M l yH E yX7_readTest cX7_readTest 3 (some .boolean) 69 [.ref (E.2.1 a0), .ref (E.2.1 a1), .int x2] S (some (.int r.1), r.2) := by
  refine ho_in (by decide) (Nat.le_of_ble_eq_true rfl) ?_
  intro p e s m args below meth c C hR ls hl
  have C : ho_I p s m args meth c RX7 cX7_readTest 3 (some .boolean) := C
  have hl : lv_has ls 3 [(0, .ref (E.2.1 a0)), (1, .ref (E.2.1 a1)), (2, .int x2)] := hl
  unfold f_X7_readTest at h
  refine lv_aload_n C.1 C.2.1 dX7_readTest_0 rfl (lv_at hl 0 rfl) ?_
  refine lv_aload_n C.1 C.2.1 dX7_readTest_1 rfl (lv_at hl 1 rfl) ?_
  refine lv_iload_n C.1 C.2.1 dX7_readTest_2 rfl (lv_at hl 2 rfl) ?_
  obtain ⟨S1, h1, h⟩ := ob_ok h
  refine hr_Vv (S' := S1) (As := [.ref (E.2.1 a1), .int x2]) (rest := []) C cf7 (c_X7_aim l E a0 a1 x2 ha0 ha1 _ _ h1) yv_X7_aim lk_RX7_23 rfl ha0 rfl rfl hl.1 (Nat.le_of_ble_eq_true rfl) (by decide) (by decide) hR (ho_A hR) dX7_readTest_3 (fun H locs hR => ?_)
  refine lv_aload_n C.1 C.2.1 dX7_readTest_6 rfl (lv_at hl 0 rfl) ?_
  refine lv_iconst (v := (0 : Int32)) C.1 C.2.1 dX7_readTest_7 (by decide) ?_
  obtain ⟨r2, S2, h2, h⟩ := ob2_ok h
  refine hr_Vi (v := r2) (S' := S2) (As := [.int (0 : Int32)]) (rest := []) C cf7 ((c_grpH l E 60 0 a0 (0 : Int32) S1 _ ha0 h2).1 rfl) yv_X7_test lk_RX7_31 rfl ha0 rfl rfl hl.1 (Nat.le_of_ble_eq_true rfl) (by decide) (by decide) hR (ho_A hR) dX7_readTest_8 (fun H locs hR => ?_)
  obtain ⟨hz, h⟩ := tr_ok h
  exact ho_zret C hR hz h dX7_readTest_11
theorem dX6_readAll_0 : decode cX6_readAll 0 = .ok (.aload_n 0, 1) := by decide +kernel
theorem dX6_readAll_1 : decode cX6_readAll 1 = .ok (.getfield 28, 3) := by decide +kernel
theorem dX6_readAll_4 : decode cX6_readAll 4 = .ok (.invokevirtual 41, 3) := by decide +kernel
theorem dX6_readAll_7 : decode cX6_readAll 7 = .ok (.aload_n 0, 1) := by decide +kernel
theorem dX6_readAll_8 : decode cX6_readAll 8 = .ok (.getfield 28, 3) := by decide +kernel
theorem dX6_readAll_11 : decode cX6_readAll 11 = .ok (.getfield 44, 3) := by decide +kernel
theorem dX6_readAll_14 : decode cX6_readAll 14 = .ok (.iconst 1, 1) := by decide +kernel
theorem dX6_readAll_15 : decode cX6_readAll 15 = .ok (.if_icmp .ne 15, 3) := by decide +kernel
theorem dX6_readAll_18 : decode cX6_readAll 18 = .ok (.aload_n 0, 1) := by decide +kernel
theorem dX6_readAll_19 : decode cX6_readAll 19 = .ok (.getfield 28, 3) := by decide +kernel
theorem dX6_readAll_22 : decode cX6_readAll 22 = .ok (.getfield 47, 3) := by decide +kernel
theorem dX6_readAll_25 : decode cX6_readAll 25 = .ok (.bipush 29, 2) := by decide +kernel
theorem dX6_readAll_27 : decode cX6_readAll 27 = .ok (.if_icmp .ge 19, 3) := by decide +kernel
theorem dX6_readAll_30 : decode cX6_readAll 30 = .ok (.aload_n 0, 1) := by decide +kernel
theorem dX6_readAll_31 : decode cX6_readAll 31 = .ok (.getfield 28, 3) := by decide +kernel
theorem dX6_readAll_34 : decode cX6_readAll 34 = .ok (.iconst 1, 1) := by decide +kernel
theorem dX6_readAll_35 : decode cX6_readAll 35 = .ok (.aload_n 0, 1) := by decide +kernel
theorem dX6_readAll_36 : decode cX6_readAll 36 = .ok (.getfield 28, 3) := by decide +kernel
theorem dX6_readAll_39 : decode cX6_readAll 39 = .ok (.getfield 50, 3) := by decide +kernel
theorem dX6_readAll_42 : decode cX6_readAll 42 = .ok (.invokevirtual 53, 3) := by decide +kernel
theorem dX6_readAll_45 : decode cX6_readAll 45 = .ok (.ireturn, 1) := by decide +kernel
theorem dX6_readAll_46 : decode cX6_readAll 46 = .ok (.aload_n 0, 1) := by decide +kernel
theorem dX6_readAll_47 : decode cX6_readAll 47 = .ok (.aload_n 0, 1) := by decide +kernel
theorem dX6_readAll_48 : decode cX6_readAll 48 = .ok (.getfield 28, 3) := by decide +kernel
theorem dX6_readAll_51 : decode cX6_readAll 51 = .ok (.getfield 47, 3) := by decide +kernel
theorem dX6_readAll_54 : decode cX6_readAll 54 = .ok (.putfield 24, 3) := by decide +kernel
theorem dX6_readAll_57 : decode cX6_readAll 57 = .ok (.aload_n 0, 1) := by decide +kernel
theorem dX6_readAll_58 : decode cX6_readAll 58 = .ok (.getfield 28, 3) := by decide +kernel
theorem dX6_readAll_61 : decode cX6_readAll 61 = .ok (.invokevirtual 57, 3) := by decide +kernel
theorem dX6_readAll_64 : decode cX6_readAll 64 = .ok (.aload_n 0, 1) := by decide +kernel
theorem dX6_readAll_65 : decode cX6_readAll 65 = .ok (.getfield 24, 3) := by decide +kernel
theorem dX6_readAll_68 : decode cX6_readAll 68 = .ok (.bipush 31, 2) := by decide +kernel
theorem dX6_readAll_70 : decode cX6_readAll 70 = .ok (.if_icmp .gt 19, 3) := by decide +kernel
theorem dX6_readAll_73 : decode cX6_readAll 73 = .ok (.aload_n 0, 1) := by decide +kernel
theorem dX6_readAll_74 : decode cX6_readAll 74 = .ok (.getfield 37, 3) := by decide +kernel
theorem dX6_readAll_77 : decode cX6_readAll 77 = .ok (.aload_n 0, 1) := by decide +kernel
theorem dX6_readAll_78 : decode cX6_readAll 78 = .ok (.getfield 14, 3) := by decide +kernel
theorem dX6_readAll_81 : decode cX6_readAll 81 = .ok (.ldc 60, 2) := by decide +kernel
theorem dX6_readAll_83 : decode cX6_readAll 83 = .ok (.invokevirtual 61, 3) := by decide +kernel
theorem dX6_readAll_86 : decode cX6_readAll 86 = .ok (.goto 16, 3) := by decide +kernel
theorem dX6_readAll_89 : decode cX6_readAll 89 = .ok (.aload_n 0, 1) := by decide +kernel
theorem dX6_readAll_90 : decode cX6_readAll 90 = .ok (.getfield 37, 3) := by decide +kernel
theorem dX6_readAll_93 : decode cX6_readAll 93 = .ok (.aload_n 0, 1) := by decide +kernel
theorem dX6_readAll_94 : decode cX6_readAll 94 = .ok (.getfield 14, 3) := by decide +kernel
theorem dX6_readAll_97 : decode cX6_readAll 97 = .ok (.ldc 60, 2) := by decide +kernel
theorem dX6_readAll_99 : decode cX6_readAll 99 = .ok (.invokevirtual 65, 3) := by decide +kernel
theorem dX6_readAll_102 : decode cX6_readAll 102 = .ok (.istore_n 1, 1) := by decide +kernel
theorem dX6_readAll_103 : decode cX6_readAll 103 = .ok (.iload_n 1, 1) := by decide +kernel
theorem dX6_readAll_104 : decode cX6_readAll 104 = .ok (.ifCond .ne 5, 3) := by decide +kernel
theorem dX6_readAll_107 : decode cX6_readAll 107 = .ok (.iconst 0, 1) := by decide +kernel
theorem dX6_readAll_108 : decode cX6_readAll 108 = .ok (.ireturn, 1) := by decide +kernel
theorem dX6_readAll_109 : decode cX6_readAll 109 = .ok (.aload_n 0, 1) := by decide +kernel
theorem dX6_readAll_110 : decode cX6_readAll 110 = .ok (.getfield 28, 3) := by decide +kernel
theorem dX6_readAll_113 : decode cX6_readAll 113 = .ok (.getfield 44, 3) := by decide +kernel
theorem dX6_readAll_116 : decode cX6_readAll 116 = .ok (.ifCond .eq 21, 3) := by decide +kernel
theorem dX6_readAll_119 : decode cX6_readAll 119 = .ok (.aload_n 0, 1) := by decide +kernel
theorem dX6_readAll_120 : decode cX6_readAll 120 = .ok (.getfield 28, 3) := by decide +kernel
theorem dX6_readAll_123 : decode cX6_readAll 123 = .ok (.iconst 1, 1) := by decide +kernel
theorem dX6_readAll_124 : decode cX6_readAll 124 = .ok (.aload_n 0, 1) := by decide +kernel
theorem dX6_readAll_125 : decode cX6_readAll 125 = .ok (.getfield 28, 3) := by decide +kernel
theorem dX6_readAll_128 : decode cX6_readAll 128 = .ok (.getfield 50, 3) := by decide +kernel
theorem dX6_readAll_131 : decode cX6_readAll 131 = .ok (.invokevirtual 53, 3) := by decide +kernel
theorem dX6_readAll_134 : decode cX6_readAll 134 = .ok (.ifCond .eq 7, 3) := by decide +kernel
theorem dX6_readAll_137 : decode cX6_readAll 137 = .ok (.iconst 1, 1) := by decide +kernel
theorem dX6_readAll_138 : decode cX6_readAll 138 = .ok (.goto 4, 3) := by decide +kernel
theorem dX6_readAll_141 : decode cX6_readAll 141 = .ok (.iconst 0, 1) := by decide +kernel
theorem dX6_readAll_142 : decode cX6_readAll 142 = .ok (.ireturn, 1) := by decide +kernel
def f_X6_readAll_30 (S : Hp) : Option (Int32 × Hp) :=
  ob2 (f_X10_wrong (1 : Int32) (S.1 10 5) S) (fun r1 S1 => tr r1 (some (r1, S1)))
set_option maxHeartbeats 4000000 in
set_option maxRecDepth 100000 in
theorem w_X6_readAll_30 {p : Program} {l : Launch} {e : Env} {s : State} {m : MethodId} {args : Array Value} {below : List Frame} {meth : Method} {c : Code} {E : Ev} {S0 : Hp} {r : (Int32 × Hp)} (C : ho_I p s m args meth c RX6 cX6_readAll 2 (some .boolean)) :
    ∀ (S : Hp), f_X6_readAll_30 S = some r → ho_G p l e s m args below meth c yH E S0 70 2 (some (.int r.1), r.2) 30 [(0, .ref (E.2.1 30))] [] S := by
  intro S h H locs ls hR hl
  unfold f_X6_readAll_30 at h
  refine lv_aload_n C.1 C.2.1 dX6_readAll_30 rfl (lv_at hl 0 rfl) ?_
  refine ho_getR (a' := 10) C cf6 fH_RX6_28 hR aH_30 rfl dX6_readAll_31 ?_
  refine lv_iconst (v := (1 : Int32)) C.1 C.2.1 dX6_readAll_34 (by decide) ?_
  refine lv_aload_n C.1 C.2.1 dX6_readAll_35 rfl (lv_at hl 0 rfl) ?_
  refine ho_getR (a' := 10) C cf6 fH_RX6_28 hR aH_30 rfl dX6_readAll_36 ?_
  refine ho_getI C cf10 fH_RX6_50 hR aH_10 dX6_readAll_39 ?_
  obtain ⟨r1, S1, h1, h⟩ := ob2_ok h
  refine hr_Vi (v := r1) (S' := S1) (As := [.int (1 : Int32), .int (S.1 10 5)]) (rest := []) C cf10 (c_X10_wrong l E (1 : Int32) (S.1 10 5) _ _ h1) yv_X10_wrong lk_RX6_53 rfl aH_10 rfl rfl hl.1 (Nat.le_of_ble_eq_true rfl) (by decide) (by decide) hR (ho_A hR) dX6_readAll_42 (fun H locs hR => ?_)
  obtain ⟨hz, h⟩ := tr_ok h
  exact ho_zret C hR hz h dX6_readAll_45
def f_X6_readAll_137 (S : Hp) : Option (Int32 × Hp) :=
  some ((1 : Int32), S)
set_option maxHeartbeats 4000000 in
set_option maxRecDepth 100000 in
theorem w_X6_readAll_137 {p : Program} {l : Launch} {e : Env} {s : State} {m : MethodId} {args : Array Value} {below : List Frame} {meth : Method} {c : Code} {E : Ev} {S0 : Hp} {r : (Int32 × Hp)} (C : ho_I p s m args meth c RX6 cX6_readAll 2 (some .boolean)) :
    ∀ (S : Hp), f_X6_readAll_137 S = some r → ho_G p l e s m args below meth c yH E S0 70 2 (some (.int r.1), r.2) 137 [] [] S := by
  intro S h H locs ls hR hl
  unfold f_X6_readAll_137 at h
  refine lv_iconst (v := (1 : Int32)) C.1 C.2.1 dX6_readAll_137 (by decide) ?_
  refine lv_goto (tgt := 142) C.1 C.2.1 dX6_readAll_138 (by decide) ?_
  exact ho_zret C hR (Or.inr rfl) h dX6_readAll_142
def f_X6_readAll_102 (z0 : Int32) (S : Hp) : Option (Int32 × Hp) :=
  if z0 = 0 then some ((0 : Int32), S) else if (S.1 10 4) = 0 then f_X6_readAll_137 S else ob2 (f_X10_wrong (1 : Int32) (S.1 10 5) S) (fun r1 S1 => if r1 = 0 then some ((0 : Int32), S1) else f_X6_readAll_137 S1)
set_option maxHeartbeats 4000000 in
set_option maxRecDepth 100000 in
theorem w_X6_readAll_102 {p : Program} {l : Launch} {e : Env} {s : State} {m : MethodId} {args : Array Value} {below : List Frame} {meth : Method} {c : Code} {E : Ev} {S0 : Hp} {r : (Int32 × Hp)} (C : ho_I p s m args meth c RX6 cX6_readAll 2 (some .boolean)) :
    ∀ (z0 : Int32) (S : Hp), f_X6_readAll_102 z0 S = some r → ho_G p l e s m args below meth c yH E S0 70 2 (some (.int r.1), r.2) 102 [(0, .ref (E.2.1 30))] [.int z0] S := by
  intro z0 S h H locs ls hR hl
  unfold f_X6_readAll_102 at h
  refine lv_istore_n (lv' := [(1, .int z0), (0, .ref (E.2.1 30))]) C.1 C.2.1 dX6_readAll_102 rfl hl (by decide) rfl (fun ls hl => ?_)
  refine lv_iload_n C.1 C.2.1 dX6_readAll_103 rfl (lv_at hl 0 rfl) ?_
  refine lv_if_ne (tgt := 109) C.1 C.2.1 dX6_readAll_104 (by decide) (fun hc => ?_) (fun hc => ?_)
  · replace h := if_f h hc
    refine lv_aload_n C.1 C.2.1 dX6_readAll_109 rfl (lv_at hl 1 rfl) ?_
    refine ho_getR (a' := 10) C cf6 fH_RX6_28 hR aH_30 rfl dX6_readAll_110 ?_
    refine ho_getI C cf10 fH_RX6_44 hR aH_10 dX6_readAll_113 ?_
    refine lv_if_eq (tgt := 137) C.1 C.2.1 dX6_readAll_116 (by decide) (fun hc => ?_) (fun hc => ?_)
    · replace h := if_t h hc
      exact w_X6_readAll_137 C S h _ _ _ hR (lv_sub hl [] rfl)
    · replace h := if_f h hc
      refine lv_aload_n C.1 C.2.1 dX6_readAll_119 rfl (lv_at hl 1 rfl) ?_
      refine ho_getR (a' := 10) C cf6 fH_RX6_28 hR aH_30 rfl dX6_readAll_120 ?_
      refine lv_iconst (v := (1 : Int32)) C.1 C.2.1 dX6_readAll_123 (by decide) ?_
      refine lv_aload_n C.1 C.2.1 dX6_readAll_124 rfl (lv_at hl 1 rfl) ?_
      refine ho_getR (a' := 10) C cf6 fH_RX6_28 hR aH_30 rfl dX6_readAll_125 ?_
      refine ho_getI C cf10 fH_RX6_50 hR aH_10 dX6_readAll_128 ?_
      obtain ⟨r1, S1, h1, h⟩ := ob2_ok h
      refine hr_Vi (v := r1) (S' := S1) (As := [.int (1 : Int32), .int (S.1 10 5)]) (rest := []) C cf10 (c_X10_wrong l E (1 : Int32) (S.1 10 5) _ _ h1) yv_X10_wrong lk_RX6_53 rfl aH_10 rfl rfl hl.1 (Nat.le_of_ble_eq_true rfl) (by decide) (by decide) hR (ho_A hR) dX6_readAll_131 (fun H locs hR => ?_)
      refine lv_if_eq (tgt := 141) C.1 C.2.1 dX6_readAll_134 (by decide) (fun hc => ?_) (fun hc => ?_)
      · replace h := if_t h hc
        refine lv_iconst (v := (0 : Int32)) C.1 C.2.1 dX6_readAll_141 (by decide) ?_
        exact ho_zret C hR (Or.inl rfl) h dX6_readAll_142
      · replace h := if_f h hc
        exact w_X6_readAll_137 C S1 h _ _ _ hR (lv_sub hl [] rfl)
  · replace h := if_t h hc
    refine lv_iconst (v := (0 : Int32)) C.1 C.2.1 dX6_readAll_107 (by decide) ?_
    exact ho_zret C hR (Or.inl rfl) h dX6_readAll_108
def f_X6_readAll (S : Hp) : Option (Int32 × Hp) :=
  ob (f_X10_begin S) (fun S1 => if (S1.1 10 4) = (1 : Int32) then if (29 : Int32) ≤ (S1.1 10 6) then le1 (ho_sI S1 30 4 (S1.1 10 6)) (fun S2 => ob (f_X10_next S2) (fun S3 => if (31 : Int32) < (S3.1 30 4) then ob2 (f_X7_readSum 35 40 (8323392 : Int32) S3) (fun r4 S4 => f_X6_readAll_102 r4 S4) else ob2 (f_X7_readTest 35 40 (8323392 : Int32) S3) (fun r5 S5 => f_X6_readAll_102 r5 S5))) else f_X6_readAll_30 S1 else f_X6_readAll_30 S1)
set_option maxHeartbeats 4000000 in
set_option maxRecDepth 100000 in
theorem c_X6_readAll (l : Launch) (E : Ev) (S : Hp) (r : (Int32 × Hp)) (h : f_X6_readAll S = some r) : ho_M l yH E yX6_readAll cX6_readAll 2 (some .boolean) 70 [.ref (E.2.1 30)] S (some (.int r.1), r.2) := by
  refine ho_in (by decide) (Nat.le_of_ble_eq_true rfl) ?_
  intro p e s m args below meth c C hR ls hl
  have C : ho_I p s m args meth c RX6 cX6_readAll 2 (some .boolean) := C
  have hl : lv_has ls 2 [(0, .ref (E.2.1 30))] := hl
  unfold f_X6_readAll at h
  refine lv_aload_n C.1 C.2.1 dX6_readAll_0 rfl (lv_at hl 0 rfl) ?_
  refine ho_getR (a' := 10) C cf6 fH_RX6_28 hR aH_30 rfl dX6_readAll_1 ?_
  obtain ⟨S1, h1, h⟩ := ob_ok h
  refine hr_Vv (S' := S1) (As := []) (rest := []) C cf10 (c_X10_begin l E _ _ h1) yv_X10_begin lk_RX6_41 rfl aH_10 rfl rfl hl.1 (Nat.le_of_ble_eq_true rfl) (by decide) (by decide) hR (ho_A hR) dX6_readAll_4 (fun H locs hR => ?_)
  refine lv_aload_n C.1 C.2.1 dX6_readAll_7 rfl (lv_at hl 0 rfl) ?_
  refine ho_getR (a' := 10) C cf6 fH_RX6_28 hR aH_30 rfl dX6_readAll_8 ?_
  refine ho_getI C cf10 fH_RX6_44 hR aH_10 dX6_readAll_11 ?_
  refine lv_iconst (v := (1 : Int32)) C.1 C.2.1 dX6_readAll_14 (by decide) ?_
  refine lv_icmp_ne (tgt := 30) C.1 C.2.1 dX6_readAll_15 (by decide) (fun hc => ?_) (fun hc => ?_)
  · replace h := if_f h hc
    exact w_X6_readAll_30 C S1 h _ _ _ hR (lv_sub hl [0] rfl)
  · replace h := if_t h hc
    refine lv_aload_n C.1 C.2.1 dX6_readAll_18 rfl (lv_at hl 0 rfl) ?_
    refine ho_getR (a' := 10) C cf6 fH_RX6_28 hR aH_30 rfl dX6_readAll_19 ?_
    refine ho_getI C cf10 fH_RX6_47 hR aH_10 dX6_readAll_22 ?_
    refine lv_bipush (v := (29 : Int32)) C.1 C.2.1 dX6_readAll_25 (by decide) ?_
    refine lv_icmp_ge (tgt := 46) C.1 C.2.1 dX6_readAll_27 (by decide) (fun hc => ?_) (fun hc => ?_)
    · replace h := if_t h hc
      refine lv_aload_n C.1 C.2.1 dX6_readAll_46 rfl (lv_at hl 0 rfl) ?_
      refine lv_aload_n C.1 C.2.1 dX6_readAll_47 rfl (lv_at hl 0 rfl) ?_
      refine ho_getR (a' := 10) C cf6 fH_RX6_28 hR aH_30 rfl dX6_readAll_48 ?_
      refine ho_getI C cf10 fH_RX6_47 hR aH_10 dX6_readAll_51 ?_
      obtain ⟨S2, e2, h⟩ := le1_ok h
      refine hr_putI C cf6 fH_RX6_24 hR aH_30 e2 dX6_readAll_54 (fun H locs hR => ?_)
      refine lv_aload_n C.1 C.2.1 dX6_readAll_57 rfl (lv_at hl 0 rfl) ?_
      refine ho_getR (a' := 10) C cf6 fH_RX6_28 hR aH_30 rfl dX6_readAll_58 ?_
      obtain ⟨S3, h3, h⟩ := ob_ok h
      refine hr_Vv (S' := S3) (As := []) (rest := []) C cf10 (c_X10_next l E _ _ h3) yv_X10_next lk_RX6_57 rfl aH_10 rfl rfl hl.1 (Nat.le_of_ble_eq_true rfl) (by decide) (by decide) hR (ho_A hR) dX6_readAll_61 (fun H locs hR => ?_)
      refine lv_aload_n C.1 C.2.1 dX6_readAll_64 rfl (lv_at hl 0 rfl) ?_
      refine ho_getI C cf6 fH_RX6_24 hR aH_30 dX6_readAll_65 ?_
      refine lv_bipush (v := (31 : Int32)) C.1 C.2.1 dX6_readAll_68 (by decide) ?_
      refine lv_icmp_gt (tgt := 89) C.1 C.2.1 dX6_readAll_70 (by decide) (fun hc => ?_) (fun hc => ?_)
      · replace h := if_t h hc
        refine lv_aload_n C.1 C.2.1 dX6_readAll_89 rfl (lv_at hl 0 rfl) ?_
        refine ho_getR (a' := 35) C cf6 fH_RX6_37 hR aH_30 rfl dX6_readAll_90 ?_
        refine lv_aload_n C.1 C.2.1 dX6_readAll_93 rfl (lv_at hl 0 rfl) ?_
        refine ho_getR (a' := 40) C cf6 fH_RX6_14 hR aH_30 rfl dX6_readAll_94 ?_
        refine lv_ldc (v := (8323392 : Int32)) C.1 C.2.1 C.2.2.2.2.1 (C.2.2.2.2.2.1 _ kc_RX6_60) dX6_readAll_97 ?_
        obtain ⟨r4, S4, h4, h⟩ := ob2_ok h
        refine hr_Vi (v := r4) (S' := S4) (As := [.ref (E.2.1 40), .int (8323392 : Int32)]) (rest := []) C cf7 (c_X7_readSum l E 35 40 (8323392 : Int32) aH_35 aH_40 _ _ h4) yv_X7_readSum lk_RX6_65 rfl aH_35 rfl rfl hl.1 (Nat.le_of_ble_eq_true rfl) (by decide) (by decide) hR (ho_A hR) dX6_readAll_99 (fun H locs hR => ?_)
        exact w_X6_readAll_102 C r4 S4 h _ _ _ hR (lv_sub hl [0] rfl)
      · replace h := if_f h hc
        refine lv_aload_n C.1 C.2.1 dX6_readAll_73 rfl (lv_at hl 0 rfl) ?_
        refine ho_getR (a' := 35) C cf6 fH_RX6_37 hR aH_30 rfl dX6_readAll_74 ?_
        refine lv_aload_n C.1 C.2.1 dX6_readAll_77 rfl (lv_at hl 0 rfl) ?_
        refine ho_getR (a' := 40) C cf6 fH_RX6_14 hR aH_30 rfl dX6_readAll_78 ?_
        refine lv_ldc (v := (8323392 : Int32)) C.1 C.2.1 C.2.2.2.2.1 (C.2.2.2.2.2.1 _ kc_RX6_60) dX6_readAll_81 ?_
        obtain ⟨r5, S5, h5, h⟩ := ob2_ok h
        refine hr_Vi (v := r5) (S' := S5) (As := [.ref (E.2.1 40), .int (8323392 : Int32)]) (rest := []) C cf7 (c_X7_readTest l E 35 40 (8323392 : Int32) aH_35 aH_40 _ _ h5) yv_X7_readTest lk_RX6_61 rfl aH_35 rfl rfl hl.1 (Nat.le_of_ble_eq_true rfl) (by decide) (by decide) hR (ho_A hR) dX6_readAll_83 (fun H locs hR => ?_)
        refine lv_goto (tgt := 102) C.1 C.2.1 dX6_readAll_86 (by decide) ?_
        exact w_X6_readAll_102 C r5 S5 h _ _ _ hR (lv_sub hl [0] rfl)
    · replace h := if_f h hc
      exact w_X6_readAll_30 C S1 h _ _ _ hR (lv_sub hl [0] rfl)
theorem dX8_describe_0 : decode cX8_describe 0 = .ok (.iconst 0, 1) := by decide +kernel
theorem dX8_describe_1 : decode cX8_describe 1 = .ok (.istore 4, 2) := by decide +kernel
theorem dX8_describe_3 : decode cX8_describe 3 = .ok (.iconst 0, 1) := by decide +kernel
theorem dX8_describe_4 : decode cX8_describe 4 = .ok (.istore 5, 2) := by decide +kernel
theorem dX8_describe_6 : decode cX8_describe 6 = .ok (.iload 5, 2) := by decide +kernel
theorem dX8_describe_8 : decode cX8_describe 8 = .ok (.iconst 5, 1) := by decide +kernel
theorem dX8_describe_9 : decode cX8_describe 9 = .ok (.if_icmp .ge 59, 3) := by decide +kernel
theorem dX8_describe_12 : decode cX8_describe 12 = .ok (.aload_n 0, 1) := by decide +kernel
theorem dX8_describe_13 : decode cX8_describe 13 = .ok (.getfield 36, 3) := by decide +kernel
theorem dX8_describe_16 : decode cX8_describe 16 = .ok (.iconst 2, 1) := by decide +kernel
theorem dX8_describe_17 : decode cX8_describe 17 = .ok (.iload 5, 2) := by decide +kernel
theorem dX8_describe_19 : decode cX8_describe 19 = .ok (.invokevirtual 89, 3) := by decide +kernel
theorem dX8_describe_22 : decode cX8_describe 22 = .ok (.ifCond .eq 21, 3) := by decide +kernel
theorem dX8_describe_25 : decode cX8_describe 25 = .ok (.aload_n 0, 1) := by decide +kernel
theorem dX8_describe_26 : decode cX8_describe 26 = .ok (.aload_n 1, 1) := by decide +kernel
theorem dX8_describe_27 : decode cX8_describe 27 = .ok (.iload_n 2, 1) := by decide +kernel
theorem dX8_describe_28 : decode cX8_describe 28 = .ok (.iload 5, 2) := by decide +kernel
theorem dX8_describe_30 : decode cX8_describe 30 = .ok (.aload_n 1, 1) := by decide +kernel
theorem dX8_describe_31 : decode cX8_describe 31 = .ok (.getfield 78, 3) := by decide +kernel
theorem dX8_describe_34 : decode cX8_describe 34 = .ok (.iload 5, 2) := by decide +kernel
theorem dX8_describe_36 : decode cX8_describe 36 = .ok (.iaload, 1) := by decide +kernel
theorem dX8_describe_37 : decode cX8_describe 37 = .ok (.invokevirtual 81, 3) := by decide +kernel
theorem dX8_describe_40 : decode cX8_describe 40 = .ok (.goto 4, 3) := by decide +kernel
theorem dX8_describe_43 : decode cX8_describe 43 = .ok (.iconst 0, 1) := by decide +kernel
theorem dX8_describe_44 : decode cX8_describe 44 = .ok (.istore 6, 2) := by decide +kernel
theorem dX8_describe_46 : decode cX8_describe 46 = .ok (.aload_n 3, 1) := by decide +kernel
theorem dX8_describe_47 : decode cX8_describe 47 = .ok (.bipush 35, 2) := by decide +kernel
theorem dX8_describe_49 : decode cX8_describe 49 = .ok (.iload 5, 2) := by decide +kernel
theorem dX8_describe_51 : decode cX8_describe 51 = .ok (.iadd, 1) := by decide +kernel
theorem dX8_describe_52 : decode cX8_describe 52 = .ok (.iload 6, 2) := by decide +kernel
theorem dX8_describe_54 : decode cX8_describe 54 = .ok (.iastore, 1) := by decide +kernel
theorem dX8_describe_55 : decode cX8_describe 55 = .ok (.iload 4, 2) := by decide +kernel
theorem dX8_describe_57 : decode cX8_describe 57 = .ok (.iload 6, 2) := by decide +kernel
theorem dX8_describe_59 : decode cX8_describe 59 = .ok (.iadd, 1) := by decide +kernel
theorem dX8_describe_60 : decode cX8_describe 60 = .ok (.istore 4, 2) := by decide +kernel
theorem dX8_describe_62 : decode cX8_describe 62 = .ok (.iinc 5 1, 3) := by decide +kernel
theorem dX8_describe_65 : decode cX8_describe 65 = .ok (.goto (-59), 3) := by decide +kernel
theorem dX8_describe_68 : decode cX8_describe 68 = .ok (.aload_n 3, 1) := by decide +kernel
theorem dX8_describe_69 : decode cX8_describe 69 = .ok (.bipush 18, 2) := by decide +kernel
theorem dX8_describe_71 : decode cX8_describe 71 = .ok (.iload_n 2, 1) := by decide +kernel
theorem dX8_describe_72 : decode cX8_describe 72 = .ok (.iastore, 1) := by decide +kernel
theorem dX8_describe_73 : decode cX8_describe 73 = .ok (.aload_n 3, 1) := by decide +kernel
theorem dX8_describe_74 : decode cX8_describe 74 = .ok (.bipush 6, 2) := by decide +kernel
theorem dX8_describe_76 : decode cX8_describe 76 = .ok (.aload_n 0, 1) := by decide +kernel
theorem dX8_describe_77 : decode cX8_describe 77 = .ok (.getfield 36, 3) := by decide +kernel
theorem dX8_describe_80 : decode cX8_describe 80 = .ok (.getfield 93, 3) := by decide +kernel
theorem dX8_describe_83 : decode cX8_describe 83 = .ok (.iload_n 2, 1) := by decide +kernel
theorem dX8_describe_84 : decode cX8_describe 84 = .ok (.iaload, 1) := by decide +kernel
theorem dX8_describe_85 : decode cX8_describe 85 = .ok (.iastore, 1) := by decide +kernel
theorem dX8_describe_86 : decode cX8_describe 86 = .ok (.aload_n 3, 1) := by decide +kernel
theorem dX8_describe_87 : decode cX8_describe 87 = .ok (.bipush 8, 2) := by decide +kernel
theorem dX8_describe_89 : decode cX8_describe 89 = .ok (.aload_n 0, 1) := by decide +kernel
theorem dX8_describe_90 : decode cX8_describe 90 = .ok (.getfield 36, 3) := by decide +kernel
theorem dX8_describe_93 : decode cX8_describe 93 = .ok (.getfield 42, 3) := by decide +kernel
theorem dX8_describe_96 : decode cX8_describe 96 = .ok (.iload_n 2, 1) := by decide +kernel
theorem dX8_describe_97 : decode cX8_describe 97 = .ok (.iaload, 1) := by decide +kernel
theorem dX8_describe_98 : decode cX8_describe 98 = .ok (.iastore, 1) := by decide +kernel
theorem dX8_describe_99 : decode cX8_describe 99 = .ok (.aload_n 3, 1) := by decide +kernel
theorem dX8_describe_100 : decode cX8_describe 100 = .ok (.bipush 16, 2) := by decide +kernel
theorem dX8_describe_102 : decode cX8_describe 102 = .ok (.aload_n 1, 1) := by decide +kernel
theorem dX8_describe_103 : decode cX8_describe 103 = .ok (.getfield 47, 3) := by decide +kernel
theorem dX8_describe_106 : decode cX8_describe 106 = .ok (.iload_n 2, 1) := by decide +kernel
theorem dX8_describe_107 : decode cX8_describe 107 = .ok (.iaload, 1) := by decide +kernel
theorem dX8_describe_108 : decode cX8_describe 108 = .ok (.iastore, 1) := by decide +kernel
theorem dX8_describe_109 : decode cX8_describe 109 = .ok (.aload_n 3, 1) := by decide +kernel
theorem dX8_describe_110 : decode cX8_describe 110 = .ok (.bipush 19, 2) := by decide +kernel
theorem dX8_describe_112 : decode cX8_describe 112 = .ok (.aload_n 1, 1) := by decide +kernel
theorem dX8_describe_113 : decode cX8_describe 113 = .ok (.getfield 96, 3) := by decide +kernel
theorem dX8_describe_116 : decode cX8_describe 116 = .ok (.iload_n 2, 1) := by decide +kernel
theorem dX8_describe_117 : decode cX8_describe 117 = .ok (.iaload, 1) := by decide +kernel
theorem dX8_describe_118 : decode cX8_describe 118 = .ok (.iastore, 1) := by decide +kernel
theorem dX8_describe_119 : decode cX8_describe 119 = .ok (.aload_n 3, 1) := by decide +kernel
theorem dX8_describe_120 : decode cX8_describe 120 = .ok (.bipush 20, 2) := by decide +kernel
theorem dX8_describe_122 : decode cX8_describe 122 = .ok (.iload 4, 2) := by decide +kernel
theorem dX8_describe_124 : decode cX8_describe 124 = .ok (.iastore, 1) := by decide +kernel
theorem dX8_describe_125 : decode cX8_describe 125 = .ok (.aload_n 3, 1) := by decide +kernel
theorem dX8_describe_126 : decode cX8_describe 126 = .ok (.bipush 21, 2) := by decide +kernel
theorem dX8_describe_128 : decode cX8_describe 128 = .ok (.aload_n 1, 1) := by decide +kernel
theorem dX8_describe_129 : decode cX8_describe 129 = .ok (.getfield 99, 3) := by decide +kernel
theorem dX8_describe_132 : decode cX8_describe 132 = .ok (.aload_n 0, 1) := by decide +kernel
theorem dX8_describe_133 : decode cX8_describe 133 = .ok (.getfield 36, 3) := by decide +kernel
theorem dX8_describe_136 : decode cX8_describe 136 = .ok (.getfield 102, 3) := by decide +kernel
theorem dX8_describe_139 : decode cX8_describe 139 = .ok (.iload_n 2, 1) := by decide +kernel
theorem dX8_describe_140 : decode cX8_describe 140 = .ok (.iaload, 1) := by decide +kernel
theorem dX8_describe_141 : decode cX8_describe 141 = .ok (.iaload, 1) := by decide +kernel
theorem dX8_describe_142 : decode cX8_describe 142 = .ok (.iastore, 1) := by decide +kernel
theorem dX8_describe_143 : decode cX8_describe 143 = .ok (.aload_n 3, 1) := by decide +kernel
theorem dX8_describe_144 : decode cX8_describe 144 = .ok (.bipush 17, 2) := by decide +kernel
theorem dX8_describe_146 : decode cX8_describe 146 = .ok (.aload_n 1, 1) := by decide +kernel
theorem dX8_describe_147 : decode cX8_describe 147 = .ok (.getfield 52, 3) := by decide +kernel
theorem dX8_describe_150 : decode cX8_describe 150 = .ok (.iastore, 1) := by decide +kernel
theorem dX8_describe_151 : decode cX8_describe 151 = .ok (.return_, 1) := by decide +kernel
def f_X8_describe_44 (K6 : Int32 → Int32 → Int32 → Hp → Option Hp) (a1 : Nat) (w3 n3 : Nat) (x2 : Int32) (x4 : Int32) (x5 : Int32) (z0 : Int32) (S : Hp) : Option Hp :=
  stI S w3 n3 ((35 : Int32) + x5) z0 (fun S1 => le1 (x4 + z0) (fun v2 => le1 (x5 + (1 : Int32)) (fun v3 => K6 x2 v2 v3 S1)))
set_option maxHeartbeats 4000000 in
set_option maxRecDepth 100000 in
theorem w_X8_describe_44 {p : Program} {l : Launch} {e : Env} {s : State} {m : MethodId} {args : Array Value} {below : List Frame} {meth : Method} {c : Code} {E : Ev} {S0 : Hp} {r : Hp} (C : ho_I p s m args meth c RX8 cX8_describe 7 none) (K6 : Int32 → Int32 → Int32 → Hp → Option Hp) (a1 : Nat) (w3 n3 : Nat) (ha1 : a1 ∈ yH.1 ∧ yH.2.1 a1 = (1, 9)) (hw3 : w3 ∈ yH.1 ∧ yH.2.1 w3 = (4, n3)) (hK6 : ∀ (y2 : Int32) (y4 : Int32) (y5 : Int32) (S : Hp), K6 y2 y4 y5 S = some r → ho_G p l e s m args below meth c yH E S0 4 7 (none, r) 6 [(0, .ref (E.2.1 50)), (1, .ref (E.2.1 a1)), (2, .int y2), (3, .ref (E.2.1 w3)), (4, .int y4), (5, .int y5)] [] S) :
    ∀ (x2 : Int32) (x4 : Int32) (x5 : Int32) (z0 : Int32) (S : Hp), f_X8_describe_44 K6 a1 w3 n3 x2 x4 x5 z0 S = some r → ho_G p l e s m args below meth c yH E S0 4 7 (none, r) 44 [(0, .ref (E.2.1 50)), (1, .ref (E.2.1 a1)), (2, .int x2), (3, .ref (E.2.1 w3)), (4, .int x4), (5, .int x5)] [.int z0] S := by
  intro x2 x4 x5 z0 S h H locs ls hR hl
  unfold f_X8_describe_44 at h
  refine lv_istore (lv' := [(6, .int z0), (0, .ref (E.2.1 50)), (1, .ref (E.2.1 a1)), (2, .int x2), (3, .ref (E.2.1 w3)), (4, .int x4), (5, .int x5)]) C.1 C.2.1 dX8_describe_44 hl (by decide) rfl (fun ls hl => ?_)
  refine lv_aload_n C.1 C.2.1 dX8_describe_46 rfl (lv_at hl 4 rfl) ?_
  refine lv_bipush (v := (35 : Int32)) C.1 C.2.1 dX8_describe_47 (by decide) ?_
  refine lv_iload C.1 C.2.1 dX8_describe_49 (lv_at hl 6 rfl) ?_
  refine lv_iadd C.1 C.2.1 dX8_describe_51 ?_
  refine lv_iload C.1 C.2.1 dX8_describe_52 (lv_at hl 0 rfl) ?_
  obtain ⟨S1, e1, hi1, h⟩ := stI_ok h
  refine hr_ist C hR hw3 hi1 e1 dX8_describe_54 (fun H locs hR => ?_)
  refine lv_iload C.1 C.2.1 dX8_describe_55 (lv_at hl 5 rfl) ?_
  refine lv_iload C.1 C.2.1 dX8_describe_57 (lv_at hl 0 rfl) ?_
  refine lv_iadd C.1 C.2.1 dX8_describe_59 ?_
  refine lv_topi (fun v2 e2 => ?_)
  replace h := le1_at e2 h
  refine lv_istore (lv' := [(4, .int v2), (6, .int z0), (0, .ref (E.2.1 50)), (1, .ref (E.2.1 a1)), (2, .int x2), (3, .ref (E.2.1 w3)), (5, .int x5)]) C.1 C.2.1 dX8_describe_60 hl (by decide) rfl (fun ls hl => ?_)
  obtain ⟨v3, e3, h⟩ := le1_ok h
  refine lv_iinc (v := v3) (lv' := [(5, .int v3), (4, .int v2), (6, .int z0), (0, .ref (E.2.1 50)), (1, .ref (E.2.1 a1)), (2, .int x2), (3, .ref (E.2.1 w3))]) C.1 C.2.1 dX8_describe_62 hl (k := 6) rfl (by rw [e3]; rfl) (by decide) rfl (fun ls hl => ?_)
  refine lv_goto (tgt := 6) C.1 C.2.1 dX8_describe_65 (by decide) ?_
  exact hK6 x2 v2 v3 S1 h _ _ _ hR (lv_sub hl [3, 4, 5, 6, 1, 0] rfl)
def f_X8_describe_6 (a1 : Nat) (w3 n3 : Nat) : Nat → Int32 → Int32 → Int32 → Hp → Option Hp
  | 0, _, _, _, _ => none
  | k + 1, x2, x4, x5, S => if (5 : Int32) ≤ x5 then stI S w3 n3 (18 : Int32) x2 (fun S1 => ldP yH S1 50 0 2 (fun p2 => ldI S1 (p2 + 8) 6 x2 (fun v3 => stI S1 w3 n3 (6 : Int32) v3 (fun S4 => ldP yH S4 50 0 2 (fun p5 => ldI S4 (p5 + 10) 6 x2 (fun v6 => stI S4 w3 n3 (8 : Int32) v6 (fun S7 => ldI S7 (a1 + 2) 6 x2 (fun v8 => stI S7 w3 n3 (16 : Int32) v8 (fun S9 => ldI S9 (a1 + 3) 6 x2 (fun v10 => stI S9 w3 n3 (19 : Int32) v10 (fun S11 => stI S11 w3 n3 (20 : Int32) x4 (fun S12 => ldP yH S12 50 0 2 (fun p13 => ldI S12 (p13 + 9) 6 x2 (fun v14 => ldI S12 (a1 + 1) 6 v14 (fun v15 => stI S12 w3 n3 (21 : Int32) v15 (fun S16 => stI S16 w3 n3 (17 : Int32) (S16.1 a1 0) (fun S17 => some S17))))))))))))))))) else ldP yH S 50 0 2 (fun p18 => ob2 (f_X2_holds p18 (2 : Int32) x5 S) (fun r19 S19 => if r19 = 0 then f_X8_describe_44 (f_X8_describe_6 a1 w3 n3 k) a1 w3 n3 x2 x4 x5 (0 : Int32) S19 else ldI S19 (a1 + 4) 5 x5 (fun v20 => ob2 (f_X8_glimpse a1 x2 x5 v20 S19) (fun r21 S21 => f_X8_describe_44 (f_X8_describe_6 a1 w3 n3 k) a1 w3 n3 x2 x4 x5 r21 S21))))
set_option maxHeartbeats 4000000 in
set_option maxRecDepth 100000 in
theorem w_X8_describe_6 {p : Program} {l : Launch} {e : Env} {s : State} {m : MethodId} {args : Array Value} {below : List Frame} {meth : Method} {c : Code} {E : Ev} {S0 : Hp} {r : Hp} (C : ho_I p s m args meth c RX8 cX8_describe 7 none) (a1 : Nat) (w3 n3 : Nat) (ha1 : a1 ∈ yH.1 ∧ yH.2.1 a1 = (1, 9)) (hw3 : w3 ∈ yH.1 ∧ yH.2.1 w3 = (4, n3)) :
    ∀ (k : Nat) (x2 : Int32) (x4 : Int32) (x5 : Int32) (S : Hp), f_X8_describe_6 a1 w3 n3 k x2 x4 x5 S = some r → ho_G p l e s m args below meth c yH E S0 4 7 (none, r) 6 [(0, .ref (E.2.1 50)), (1, .ref (E.2.1 a1)), (2, .int x2), (3, .ref (E.2.1 w3)), (4, .int x4), (5, .int x5)] [] S := by
  intro k
  induction k with
  | zero =>
    intro x2 x4 x5 S h
    exact absurd (show (none : Option Hp) = some r from h) (by simp)
  | succ k ih =>
    intro x2 x4 x5 S h H locs ls hR hl
    rw [f_X8_describe_6] at h
    refine lv_iload C.1 C.2.1 dX8_describe_6 (lv_at hl 5 rfl) ?_
    refine lv_iconst (v := (5 : Int32)) C.1 C.2.1 dX8_describe_8 (by decide) ?_
    refine lv_icmp_ge (tgt := 68) C.1 C.2.1 dX8_describe_9 (by decide) (fun hc => ?_) (fun hc => ?_)
    · replace h := if_t h hc
      refine lv_aload_n C.1 C.2.1 dX8_describe_68 rfl (lv_at hl 3 rfl) ?_
      refine lv_bipush (v := (18 : Int32)) C.1 C.2.1 dX8_describe_69 (by decide) ?_
      refine lv_iload_n C.1 C.2.1 dX8_describe_71 rfl (lv_at hl 2 rfl) ?_
      obtain ⟨S1, e1, hi1, h⟩ := stI_ok h
      refine hr_ist C hR hw3 hi1 e1 dX8_describe_72 (fun H locs hR => ?_)
      refine lv_aload_n C.1 C.2.1 dX8_describe_73 rfl (lv_at hl 3 rfl) ?_
      refine lv_bipush (v := (6 : Int32)) C.1 C.2.1 dX8_describe_74 (by decide) ?_
      refine lv_aload_n C.1 C.2.1 dX8_describe_76 rfl (lv_at hl 0 rfl) ?_
      obtain ⟨p2, e2, hp2, h⟩ := ldP_ok h
      refine hr_getP C cf8 fH_RX8_36 hR aH_50 e2 dX8_describe_77 ?_
      refine ho_getR (a' := (p2 + 8)) C cf2 fH_RX8_93 hR hp2 (pH_2_9 hp2.2) dX8_describe_80 ?_
      refine lv_iload_n C.1 C.2.1 dX8_describe_83 rfl (lv_at hl 2 rfl) ?_
      obtain ⟨v3, e3, hi3, h⟩ := ldI_ok h
      refine hr_ild C hR (rH_2_8 hp2) hi3 e3 dX8_describe_84 ?_
      obtain ⟨S4, e4, hi4, h⟩ := stI_ok h
      refine hr_ist C hR hw3 hi4 e4 dX8_describe_85 (fun H locs hR => ?_)
      refine lv_aload_n C.1 C.2.1 dX8_describe_86 rfl (lv_at hl 3 rfl) ?_
      refine lv_bipush (v := (8 : Int32)) C.1 C.2.1 dX8_describe_87 (by decide) ?_
      refine lv_aload_n C.1 C.2.1 dX8_describe_89 rfl (lv_at hl 0 rfl) ?_
      obtain ⟨p5, e5, hp5, h⟩ := ldP_ok h
      refine hr_getP C cf8 fH_RX8_36 hR aH_50 e5 dX8_describe_90 ?_
      refine ho_getR (a' := (p5 + 10)) C cf2 fH_RX8_42 hR hp5 (pH_2_11 hp5.2) dX8_describe_93 ?_
      refine lv_iload_n C.1 C.2.1 dX8_describe_96 rfl (lv_at hl 2 rfl) ?_
      obtain ⟨v6, e6, hi6, h⟩ := ldI_ok h
      refine hr_ild C hR (rH_2_10 hp5) hi6 e6 dX8_describe_97 ?_
      obtain ⟨S7, e7, hi7, h⟩ := stI_ok h
      refine hr_ist C hR hw3 hi7 e7 dX8_describe_98 (fun H locs hR => ?_)
      refine lv_aload_n C.1 C.2.1 dX8_describe_99 rfl (lv_at hl 3 rfl) ?_
      refine lv_bipush (v := (16 : Int32)) C.1 C.2.1 dX8_describe_100 (by decide) ?_
      refine lv_aload_n C.1 C.2.1 dX8_describe_102 rfl (lv_at hl 1 rfl) ?_
      refine ho_getR (a' := (a1 + 2)) C cf9 fH_RX8_47 hR ha1 (pH_9_4 ha1.2) dX8_describe_103 ?_
      refine lv_iload_n C.1 C.2.1 dX8_describe_106 rfl (lv_at hl 2 rfl) ?_
      obtain ⟨v8, e8, hi8, h⟩ := ldI_ok h
      refine hr_ild C hR (rH_9_2 ha1) hi8 e8 dX8_describe_107 ?_
      obtain ⟨S9, e9, hi9, h⟩ := stI_ok h
      refine hr_ist C hR hw3 hi9 e9 dX8_describe_108 (fun H locs hR => ?_)
      refine lv_aload_n C.1 C.2.1 dX8_describe_109 rfl (lv_at hl 3 rfl) ?_
      refine lv_bipush (v := (19 : Int32)) C.1 C.2.1 dX8_describe_110 (by decide) ?_
      refine lv_aload_n C.1 C.2.1 dX8_describe_112 rfl (lv_at hl 1 rfl) ?_
      refine ho_getR (a' := (a1 + 3)) C cf9 fH_RX8_96 hR ha1 (pH_9_5 ha1.2) dX8_describe_113 ?_
      refine lv_iload_n C.1 C.2.1 dX8_describe_116 rfl (lv_at hl 2 rfl) ?_
      obtain ⟨v10, e10, hi10, h⟩ := ldI_ok h
      refine hr_ild C hR (rH_9_3 ha1) hi10 e10 dX8_describe_117 ?_
      obtain ⟨S11, e11, hi11, h⟩ := stI_ok h
      refine hr_ist C hR hw3 hi11 e11 dX8_describe_118 (fun H locs hR => ?_)
      refine lv_aload_n C.1 C.2.1 dX8_describe_119 rfl (lv_at hl 3 rfl) ?_
      refine lv_bipush (v := (20 : Int32)) C.1 C.2.1 dX8_describe_120 (by decide) ?_
      refine lv_iload C.1 C.2.1 dX8_describe_122 (lv_at hl 4 rfl) ?_
      obtain ⟨S12, e12, hi12, h⟩ := stI_ok h
      refine hr_ist C hR hw3 hi12 e12 dX8_describe_124 (fun H locs hR => ?_)
      refine lv_aload_n C.1 C.2.1 dX8_describe_125 rfl (lv_at hl 3 rfl) ?_
      refine lv_bipush (v := (21 : Int32)) C.1 C.2.1 dX8_describe_126 (by decide) ?_
      refine lv_aload_n C.1 C.2.1 dX8_describe_128 rfl (lv_at hl 1 rfl) ?_
      refine ho_getR (a' := (a1 + 1)) C cf9 fH_RX8_99 hR ha1 (pH_9_3 ha1.2) dX8_describe_129 ?_
      refine lv_aload_n C.1 C.2.1 dX8_describe_132 rfl (lv_at hl 0 rfl) ?_
      obtain ⟨p13, e13, hp13, h⟩ := ldP_ok h
      refine hr_getP C cf8 fH_RX8_36 hR aH_50 e13 dX8_describe_133 ?_
      refine ho_getR (a' := (p13 + 9)) C cf2 fH_RX8_102 hR hp13 (pH_2_10 hp13.2) dX8_describe_136 ?_
      refine lv_iload_n C.1 C.2.1 dX8_describe_139 rfl (lv_at hl 2 rfl) ?_
      obtain ⟨v14, e14, hi14, h⟩ := ldI_ok h
      refine hr_ild C hR (rH_2_9 hp13) hi14 e14 dX8_describe_140 ?_
      obtain ⟨v15, e15, hi15, h⟩ := ldI_ok h
      refine hr_ild C hR (rH_9_1 ha1) hi15 e15 dX8_describe_141 ?_
      obtain ⟨S16, e16, hi16, h⟩ := stI_ok h
      refine hr_ist C hR hw3 hi16 e16 dX8_describe_142 (fun H locs hR => ?_)
      refine lv_aload_n C.1 C.2.1 dX8_describe_143 rfl (lv_at hl 3 rfl) ?_
      refine lv_bipush (v := (17 : Int32)) C.1 C.2.1 dX8_describe_144 (by decide) ?_
      refine lv_aload_n C.1 C.2.1 dX8_describe_146 rfl (lv_at hl 1 rfl) ?_
      refine ho_getI C cf9 fH_RX8_52 hR ha1 dX8_describe_147 ?_
      obtain ⟨S17, e17, hi17, h⟩ := stI_ok h
      refine hr_ist C hR hw3 hi17 e17 dX8_describe_150 (fun H locs hR => ?_)
      exact ho_vret C hR h dX8_describe_151
    · replace h := if_f h hc
      refine lv_aload_n C.1 C.2.1 dX8_describe_12 rfl (lv_at hl 0 rfl) ?_
      obtain ⟨p18, e18, hp18, h⟩ := ldP_ok h
      refine hr_getP C cf8 fH_RX8_36 hR aH_50 e18 dX8_describe_13 ?_
      refine lv_iconst (v := (2 : Int32)) C.1 C.2.1 dX8_describe_16 (by decide) ?_
      refine lv_iload C.1 C.2.1 dX8_describe_17 (lv_at hl 5 rfl) ?_
      obtain ⟨r19, S19, h19, h⟩ := ob2_ok h
      refine hr_Vi (v := r19) (S' := S19) (As := [.int (2 : Int32), .int x5]) (rest := []) C cf2 (c_X2_holds l E p18 (2 : Int32) x5 hp18 _ _ h19) yv_X2_holds lk_RX8_89 rfl hp18 rfl rfl hl.1 (Nat.le_of_ble_eq_true rfl) (by decide) (by decide) hR (ho_A hR) dX8_describe_19 (fun H locs hR => ?_)
      refine lv_if_eq (tgt := 43) C.1 C.2.1 dX8_describe_22 (by decide) (fun hc => ?_) (fun hc => ?_)
      · replace h := if_t h hc
        refine lv_iconst (v := (0 : Int32)) C.1 C.2.1 dX8_describe_43 (by decide) ?_
        exact w_X8_describe_44 C (f_X8_describe_6 a1 w3 n3 k) a1 w3 n3 ha1 hw3 ih x2 x4 x5 (0 : Int32) S19 h _ _ _ hR (lv_sub hl [0, 1, 2, 3, 4, 5] rfl)
      · replace h := if_f h hc
        refine lv_aload_n C.1 C.2.1 dX8_describe_25 rfl (lv_at hl 0 rfl) ?_
        refine lv_aload_n C.1 C.2.1 dX8_describe_26 rfl (lv_at hl 1 rfl) ?_
        refine lv_iload_n C.1 C.2.1 dX8_describe_27 rfl (lv_at hl 2 rfl) ?_
        refine lv_iload C.1 C.2.1 dX8_describe_28 (lv_at hl 5 rfl) ?_
        refine lv_aload_n C.1 C.2.1 dX8_describe_30 rfl (lv_at hl 1 rfl) ?_
        refine ho_getR (a' := (a1 + 4)) C cf9 fH_RX8_78 hR ha1 (pH_9_6 ha1.2) dX8_describe_31 ?_
        refine lv_iload C.1 C.2.1 dX8_describe_34 (lv_at hl 5 rfl) ?_
        obtain ⟨v20, e20, hi20, h⟩ := ldI_ok h
        refine hr_ild C hR (rH_9_4 ha1) hi20 e20 dX8_describe_36 ?_
        obtain ⟨r21, S21, h21, h⟩ := ob2_ok h
        refine hr_Vi (v := r21) (S' := S21) (As := [.ref (E.2.1 a1), .int x2, .int x5, .int v20]) (rest := []) C cf8 (c_X8_glimpse l E a1 x2 x5 v20 ha1 _ _ h21) yv_X8_glimpse lk_RX8_81 rfl aH_50 rfl rfl hl.1 (Nat.le_of_ble_eq_true rfl) (by decide) (by decide) hR (ho_A hR) dX8_describe_37 (fun H locs hR => ?_)
        refine lv_goto (tgt := 44) C.1 C.2.1 dX8_describe_40 (by decide) ?_
        exact w_X8_describe_44 C (f_X8_describe_6 a1 w3 n3 k) a1 w3 n3 ha1 hw3 ih x2 x4 x5 r21 S21 h _ _ _ hR (lv_sub hl [0, 1, 2, 3, 4, 5] rfl)
def f_X8_describe (a1 : Nat) (x2 : Int32) (w3 : Nat) (n3 : Nat) (S : Hp) : Option Hp :=
  f_X8_describe_6 a1 w3 n3 5000 x2 (0 : Int32) (0 : Int32) S
set_option maxHeartbeats 4000000 in
set_option maxRecDepth 100000 in
theorem c_X8_describe (l : Launch) (E : Ev) (a1 : Nat) (x2 : Int32) (w3 : Nat) (n3 : Nat) (ha1 : a1 ∈ yH.1 ∧ yH.2.1 a1 = (1, 9)) (hw3 : w3 ∈ yH.1 ∧ yH.2.1 w3 = (4, n3)) (S : Hp) (r : Hp) (h : f_X8_describe a1 x2 w3 n3 S = some r) : ho_M l yH E yX8_describe cX8_describe 7 none 4 [.ref (E.2.1 50), .ref (E.2.1 a1), .int x2, .ref (E.2.1 w3)] S (none, r) := by
  refine ho_in (by decide) (Nat.le_of_ble_eq_true rfl) ?_
  intro p e s m args below meth c C hR ls hl
  have C : ho_I p s m args meth c RX8 cX8_describe 7 none := C
  have hl : lv_has ls 7 [(0, .ref (E.2.1 50)), (1, .ref (E.2.1 a1)), (2, .int x2), (3, .ref (E.2.1 w3))] := hl
  unfold f_X8_describe at h
  refine lv_iconst (v := (0 : Int32)) C.1 C.2.1 dX8_describe_0 (by decide) ?_
  refine lv_istore (lv' := [(4, .int (0 : Int32)), (0, .ref (E.2.1 50)), (1, .ref (E.2.1 a1)), (2, .int x2), (3, .ref (E.2.1 w3))]) C.1 C.2.1 dX8_describe_1 hl (by decide) rfl (fun ls hl => ?_)
  refine lv_iconst (v := (0 : Int32)) C.1 C.2.1 dX8_describe_3 (by decide) ?_
  refine lv_istore (lv' := [(5, .int (0 : Int32)), (4, .int (0 : Int32)), (0, .ref (E.2.1 50)), (1, .ref (E.2.1 a1)), (2, .int x2), (3, .ref (E.2.1 w3))]) C.1 C.2.1 dX8_describe_4 hl (by decide) rfl (fun ls hl => ?_)
  exact w_X8_describe_6 C a1 w3 n3 ha1 hw3 5000 x2 (0 : Int32) (0 : Int32) S h _ _ _ hR (lv_sub hl [2, 3, 4, 5, 1, 0] rfl)
theorem dX6_with_0 : decode cX6_with 0 = .ok (.aload_n 0, 1) := by decide +kernel
theorem dX6_with_1 : decode cX6_with 1 = .ok (.getfield 24, 3) := by decide +kernel
theorem dX6_with_4 : decode cX6_with 4 = .ok (.tableswitch 108 29 34 #[40, 60, 108, 108, 72, 90], 40) := by decide +kernel
theorem dX6_with_44 : decode cX6_with 44 = .ok (.lload_n 1, 1) := by decide +kernel
theorem dX6_with_45 : decode cX6_with 45 = .ok (.ldc2_w 68, 3) := by decide +kernel
theorem dX6_with_48 : decode cX6_with 48 = .ok (.lcmp, 1) := by decide +kernel
theorem dX6_with_49 : decode cX6_with 49 = .ok (.ifCond .ne 13, 3) := by decide +kernel
theorem dX6_with_52 : decode cX6_with 52 = .ok (.iload 4, 2) := by decide +kernel
theorem dX6_with_54 : decode cX6_with 54 = .ok (.ifCond .eq 8, 3) := by decide +kernel
theorem dX6_with_57 : decode cX6_with 57 = .ok (.iload_n 3, 1) := by decide +kernel
theorem dX6_with_58 : decode cX6_with 58 = .ok (.i2l, 1) := by decide +kernel
theorem dX6_with_59 : decode cX6_with 59 = .ok (.goto 4, 3) := by decide +kernel
theorem dX6_with_62 : decode cX6_with 62 = .ok (.lload_n 1, 1) := by decide +kernel
theorem dX6_with_63 : decode cX6_with 63 = .ok (.lreturn, 1) := by decide +kernel
theorem dX6_with_64 : decode cX6_with 64 = .ok (.iload 4, 2) := by decide +kernel
theorem dX6_with_66 : decode cX6_with 66 = .ok (.ifCond .eq 8, 3) := by decide +kernel
theorem dX6_with_69 : decode cX6_with 69 = .ok (.iload_n 3, 1) := by decide +kernel
theorem dX6_with_70 : decode cX6_with 70 = .ok (.i2l, 1) := by decide +kernel
theorem dX6_with_71 : decode cX6_with 71 = .ok (.goto 4, 3) := by decide +kernel
theorem dX6_with_74 : decode cX6_with 74 = .ok (.lload_n 1, 1) := by decide +kernel
theorem dX6_with_75 : decode cX6_with 75 = .ok (.lreturn, 1) := by decide +kernel
theorem dX6_with_76 : decode cX6_with 76 = .ok (.iload_n 3, 1) := by decide +kernel
theorem dX6_with_77 : decode cX6_with 77 = .ok (.ifCond .ne 9, 3) := by decide +kernel
theorem dX6_with_80 : decode cX6_with 80 = .ok (.iload 4, 2) := by decide +kernel
theorem dX6_with_82 : decode cX6_with 82 = .ok (.i2l, 1) := by decide +kernel
theorem dX6_with_83 : decode cX6_with 83 = .ok (.goto 10, 3) := by decide +kernel
theorem dX6_with_86 : decode cX6_with 86 = .ok (.lload_n 1, 1) := by decide +kernel
theorem dX6_with_87 : decode cX6_with 87 = .ok (.iload 4, 2) := by decide +kernel
theorem dX6_with_89 : decode cX6_with 89 = .ok (.i2l, 1) := by decide +kernel
theorem dX6_with_90 : decode cX6_with 90 = .ok (.invokestatic 92, 3) := by decide +kernel
theorem dX6_with_93 : decode cX6_with 93 = .ok (.lreturn, 1) := by decide +kernel
theorem dX6_with_94 : decode cX6_with 94 = .ok (.iload_n 3, 1) := by decide +kernel
theorem dX6_with_95 : decode cX6_with 95 = .ok (.ifCond .ne 9, 3) := by decide +kernel
theorem dX6_with_98 : decode cX6_with 98 = .ok (.iload 4, 2) := by decide +kernel
theorem dX6_with_100 : decode cX6_with 100 = .ok (.i2l, 1) := by decide +kernel
theorem dX6_with_101 : decode cX6_with 101 = .ok (.goto 10, 3) := by decide +kernel
theorem dX6_with_104 : decode cX6_with 104 = .ok (.lload_n 1, 1) := by decide +kernel
theorem dX6_with_105 : decode cX6_with 105 = .ok (.iload 4, 2) := by decide +kernel
theorem dX6_with_107 : decode cX6_with 107 = .ok (.i2l, 1) := by decide +kernel
theorem dX6_with_108 : decode cX6_with 108 = .ok (.invokestatic 98, 3) := by decide +kernel
theorem dX6_with_111 : decode cX6_with 111 = .ok (.lreturn, 1) := by decide +kernel
theorem dX6_with_112 : decode cX6_with 112 = .ok (.lload_n 1, 1) := by decide +kernel
theorem dX6_with_113 : decode cX6_with 113 = .ok (.iload 4, 2) := by decide +kernel
theorem dX6_with_115 : decode cX6_with 115 = .ok (.i2l, 1) := by decide +kernel
theorem dX6_with_116 : decode cX6_with 116 = .ok (.ladd, 1) := by decide +kernel
theorem dX6_with_117 : decode cX6_with 117 = .ok (.lreturn, 1) := by decide +kernel
def f_X6_with_112 (x1 : Int64) (x4 : Int32) (S : Hp) : Option (Int64 × Hp) :=
  some ((x1 + (x4.toInt64)), S)
set_option maxHeartbeats 4000000 in
set_option maxRecDepth 100000 in
theorem w_X6_with_112 {p : Program} {l : Launch} {e : Env} {s : State} {m : MethodId} {args : Array Value} {below : List Frame} {meth : Method} {c : Code} {E : Ev} {S0 : Hp} {r : (Int64 × Hp)} (C : ho_I p s m args meth c RX6 cX6_with 5 (some .long)) :
    ∀ (x1 : Int64) (x4 : Int32) (S : Hp), f_X6_with_112 x1 x4 S = some r → ho_G p l e s m args below meth c yH E S0 1 5 (some (.long r.1), r.2) 112 [(1, .long x1), (4, .int x4)] [] S := by
  intro x1 x4 S h H locs ls hR hl
  unfold f_X6_with_112 at h
  refine lv_lload_n C.1 C.2.1 dX6_with_112 rfl (lv_at hl 0 rfl) ?_
  refine lv_iload C.1 C.2.1 dX6_with_113 (lv_at hl 1 rfl) ?_
  refine lv_i2l (v := (x4.toInt64)) C.1 C.2.1 dX6_with_115 rfl ?_
  refine lv_ladd C.1 C.2.1 dX6_with_116 ?_
  exact ho_lret C hR h dX6_with_117
def f_X6_with (x1 : Int64) (x3 : Int32) (x4 : Int32) (S : Hp) : Option (Int64 × Hp) :=
  if (S.1 30 4) = (29 : Int32) then if (lg_cmp x1 (-1 : Int64)) = 0 then if x4 = 0 then some (x1, S) else some ((x3.toInt64), S) else some (x1, S) else if (S.1 30 4) = (30 : Int32) then if x4 = 0 then some (x1, S) else some ((x3.toInt64), S) else if (S.1 30 4) = (31 : Int32) then f_X6_with_112 x1 x4 S else if (S.1 30 4) = (32 : Int32) then f_X6_with_112 x1 x4 S else if (S.1 30 4) = (33 : Int32) then if x3 = 0 then some ((x4.toInt64), S) else ob2 (f_J9_max_f86c9 x1 (x4.toInt64) S) (fun r1 S1 => some (r1, S1)) else if (S.1 30 4) = (34 : Int32) then if x3 = 0 then some ((x4.toInt64), S) else ob2 (f_J9_min_f86c9 x1 (x4.toInt64) S) (fun r2 S2 => some (r2, S2)) else f_X6_with_112 x1 x4 S
set_option maxHeartbeats 4000000 in
set_option maxRecDepth 100000 in
theorem c_X6_with (l : Launch) (E : Ev) (x1 : Int64) (x3 : Int32) (x4 : Int32) (S : Hp) (r : (Int64 × Hp)) (h : f_X6_with x1 x3 x4 S = some r) : ho_M l yH E yX6_with cX6_with 5 (some .long) 1 [.ref (E.2.1 30), .long x1, .int x3, .int x4] S (some (.long r.1), r.2) := by
  refine ho_in (by decide) (Nat.le_of_ble_eq_true rfl) ?_
  intro p e s m args below meth c C hR ls hl
  have C : ho_I p s m args meth c RX6 cX6_with 5 (some .long) := C
  have hl : lv_has ls 5 [(0, .ref (E.2.1 30)), (1, .long x1), (3, .int x3), (4, .int x4)] := hl
  unfold f_X6_with at h
  refine lv_aload_n C.1 C.2.1 dX6_with_0 rfl (lv_at hl 0 rfl) ?_
  refine ho_getI C cf6 fH_RX6_24 hR aH_30 dX6_with_1 ?_
  by_cases hc0 : (S.1 30 4) = (29 : Int32)
  · replace h := if_t h hc0
    have hx : ((S.1 30 4)).toInt = 29 := by rw [hc0]; decide
    refine lv_tableIn (off := 40) (tgt := 44) C.1 C.2.1 dX6_with_4 (by rw [hx]; decide) (by rw [hx]; decide) (by rw [hx]; decide) (by decide) ?_
    refine lv_lload_n C.1 C.2.1 dX6_with_44 rfl (lv_at hl 1 rfl) ?_
    refine lv_ldc2 (v := (-1 : Int64)) C.1 C.2.1 C.2.2.2.2.1 (C.2.2.2.2.2.1 _ kc_RX6_68) dX6_with_45 ?_
    refine W.lcmp C.1 C.2.1 dX6_with_48 ?_
    refine lv_if_ne (tgt := 62) C.1 C.2.1 dX6_with_49 (by decide) (fun hc => ?_) (fun hc => ?_)
    · replace h := if_f h hc
      refine lv_lload_n C.1 C.2.1 dX6_with_62 rfl (lv_at hl 1 rfl) ?_
      exact ho_lret C hR h dX6_with_63
    · replace h := if_t h hc
      refine lv_iload C.1 C.2.1 dX6_with_52 (lv_at hl 3 rfl) ?_
      refine lv_if_eq (tgt := 62) C.1 C.2.1 dX6_with_54 (by decide) (fun hc => ?_) (fun hc => ?_)
      · replace h := if_t h hc
        refine lv_lload_n C.1 C.2.1 dX6_with_62 rfl (lv_at hl 1 rfl) ?_
        exact ho_lret C hR h dX6_with_63
      · replace h := if_f h hc
        refine lv_iload_n C.1 C.2.1 dX6_with_57 rfl (lv_at hl 2 rfl) ?_
        refine lv_i2l (v := (x3.toInt64)) C.1 C.2.1 dX6_with_58 rfl ?_
        refine lv_goto (tgt := 63) C.1 C.2.1 dX6_with_59 (by decide) ?_
        exact ho_lret C hR h dX6_with_63
  · replace h := if_f h hc0
    by_cases hc1 : (S.1 30 4) = (30 : Int32)
    · replace h := if_t h hc1
      have hx : ((S.1 30 4)).toInt = 30 := by rw [hc1]; decide
      refine lv_tableIn (off := 60) (tgt := 64) C.1 C.2.1 dX6_with_4 (by rw [hx]; decide) (by rw [hx]; decide) (by rw [hx]; decide) (by decide) ?_
      refine lv_iload C.1 C.2.1 dX6_with_64 (lv_at hl 3 rfl) ?_
      refine lv_if_eq (tgt := 74) C.1 C.2.1 dX6_with_66 (by decide) (fun hc => ?_) (fun hc => ?_)
      · replace h := if_t h hc
        refine lv_lload_n C.1 C.2.1 dX6_with_74 rfl (lv_at hl 1 rfl) ?_
        exact ho_lret C hR h dX6_with_75
      · replace h := if_f h hc
        refine lv_iload_n C.1 C.2.1 dX6_with_69 rfl (lv_at hl 2 rfl) ?_
        refine lv_i2l (v := (x3.toInt64)) C.1 C.2.1 dX6_with_70 rfl ?_
        refine lv_goto (tgt := 75) C.1 C.2.1 dX6_with_71 (by decide) ?_
        exact ho_lret C hR h dX6_with_75
    · replace h := if_f h hc1
      by_cases hc2 : (S.1 30 4) = (31 : Int32)
      · replace h := if_t h hc2
        have hx : ((S.1 30 4)).toInt = 31 := by rw [hc2]; decide
        refine lv_tableIn (off := 108) (tgt := 112) C.1 C.2.1 dX6_with_4 (by rw [hx]; decide) (by rw [hx]; decide) (by rw [hx]; decide) (by decide) ?_
        exact w_X6_with_112 C x1 x4 S h _ _ _ hR (lv_sub hl [1, 3] rfl)
      · replace h := if_f h hc2
        by_cases hc3 : (S.1 30 4) = (32 : Int32)
        · replace h := if_t h hc3
          have hx : ((S.1 30 4)).toInt = 32 := by rw [hc3]; decide
          refine lv_tableIn (off := 108) (tgt := 112) C.1 C.2.1 dX6_with_4 (by rw [hx]; decide) (by rw [hx]; decide) (by rw [hx]; decide) (by decide) ?_
          exact w_X6_with_112 C x1 x4 S h _ _ _ hR (lv_sub hl [1, 3] rfl)
        · replace h := if_f h hc3
          by_cases hc4 : (S.1 30 4) = (33 : Int32)
          · replace h := if_t h hc4
            have hx : ((S.1 30 4)).toInt = 33 := by rw [hc4]; decide
            refine lv_tableIn (off := 72) (tgt := 76) C.1 C.2.1 dX6_with_4 (by rw [hx]; decide) (by rw [hx]; decide) (by rw [hx]; decide) (by decide) ?_
            refine lv_iload_n C.1 C.2.1 dX6_with_76 rfl (lv_at hl 2 rfl) ?_
            refine lv_if_ne (tgt := 86) C.1 C.2.1 dX6_with_77 (by decide) (fun hc => ?_) (fun hc => ?_)
            · replace h := if_f h hc
              refine lv_lload_n C.1 C.2.1 dX6_with_86 rfl (lv_at hl 1 rfl) ?_
              refine lv_iload C.1 C.2.1 dX6_with_87 (lv_at hl 3 rfl) ?_
              refine lv_i2l (v := (x4.toInt64)) C.1 C.2.1 dX6_with_89 rfl ?_
              obtain ⟨r1, S1, h1, h⟩ := ob2_ok h
              refine hr_Sl (w := r1) (S' := S1) (As := [.long x1, .long (x4.toInt64)]) (rest := []) C (c_J9_max_f86c9 l E x1 (x4.toInt64) _ _ h1) ys_J9_max_f86c9 lk_RX6_92 rfl rfl hl.1 (Nat.le_of_ble_eq_true rfl) (by decide) (by decide) hR (ho_A hR) dX6_with_90 (fun H locs hR => ?_)
              exact ho_lret C hR h dX6_with_93
            · replace h := if_t h hc
              refine lv_iload C.1 C.2.1 dX6_with_80 (lv_at hl 3 rfl) ?_
              refine lv_i2l (v := (x4.toInt64)) C.1 C.2.1 dX6_with_82 rfl ?_
              refine lv_goto (tgt := 93) C.1 C.2.1 dX6_with_83 (by decide) ?_
              exact ho_lret C hR h dX6_with_93
          · replace h := if_f h hc4
            by_cases hc5 : (S.1 30 4) = (34 : Int32)
            · replace h := if_t h hc5
              have hx : ((S.1 30 4)).toInt = 34 := by rw [hc5]; decide
              refine lv_tableIn (off := 90) (tgt := 94) C.1 C.2.1 dX6_with_4 (by rw [hx]; decide) (by rw [hx]; decide) (by rw [hx]; decide) (by decide) ?_
              refine lv_iload_n C.1 C.2.1 dX6_with_94 rfl (lv_at hl 2 rfl) ?_
              refine lv_if_ne (tgt := 104) C.1 C.2.1 dX6_with_95 (by decide) (fun hc => ?_) (fun hc => ?_)
              · replace h := if_f h hc
                refine lv_lload_n C.1 C.2.1 dX6_with_104 rfl (lv_at hl 1 rfl) ?_
                refine lv_iload C.1 C.2.1 dX6_with_105 (lv_at hl 3 rfl) ?_
                refine lv_i2l (v := (x4.toInt64)) C.1 C.2.1 dX6_with_107 rfl ?_
                obtain ⟨r2, S2, h2, h⟩ := ob2_ok h
                refine hr_Sl (w := r2) (S' := S2) (As := [.long x1, .long (x4.toInt64)]) (rest := []) C (c_J9_min_f86c9 l E x1 (x4.toInt64) _ _ h2) ys_J9_min_f86c9 lk_RX6_98 rfl rfl hl.1 (Nat.le_of_ble_eq_true rfl) (by decide) (by decide) hR (ho_A hR) dX6_with_108 (fun H locs hR => ?_)
                exact ho_lret C hR h dX6_with_111
              · replace h := if_t h hc
                refine lv_iload C.1 C.2.1 dX6_with_98 (lv_at hl 3 rfl) ?_
                refine lv_i2l (v := (x4.toInt64)) C.1 C.2.1 dX6_with_100 rfl ?_
                refine lv_goto (tgt := 111) C.1 C.2.1 dX6_with_101 (by decide) ?_
                exact ho_lret C hR h dX6_with_111
            · replace h := if_f h hc5
              have hx0 := lv_neT hc0 (a := 29) (by decide)
              have hx1 := lv_neT hc1 (a := 30) (by decide)
              have hx2 := lv_neT hc2 (a := 31) (by decide)
              have hx3 := lv_neT hc3 (a := 32) (by decide)
              have hx4 := lv_neT hc4 (a := 33) (by decide)
              have hx5 := lv_neT hc5 (a := 34) (by decide)
              refine lv_tableOut (tgt := 112) C.1 C.2.1 dX6_with_4 (by omega) (by decide) ?_
              exact w_X6_with_112 C x1 x4 S h _ _ _ hR (lv_sub hl [1, 3] rfl)
theorem dX6_answer_0 : decode cX6_answer 0 = .ok (.aload_n 0, 1) := by decide +kernel
theorem dX6_answer_1 : decode cX6_answer 1 = .ok (.getfield 24, 3) := by decide +kernel
theorem dX6_answer_4 : decode cX6_answer 4 = .ok (.bipush 29, 2) := by decide +kernel
theorem dX6_answer_6 : decode cX6_answer 6 = .ok (.if_icmp .eq 12, 3) := by decide +kernel
theorem dX6_answer_9 : decode cX6_answer 9 = .ok (.aload_n 0, 1) := by decide +kernel
theorem dX6_answer_10 : decode cX6_answer 10 = .ok (.getfield 24, 3) := by decide +kernel
theorem dX6_answer_13 : decode cX6_answer 13 = .ok (.bipush 30, 2) := by decide +kernel
theorem dX6_answer_15 : decode cX6_answer 15 = .ok (.if_icmp .ne 9, 3) := by decide +kernel
theorem dX6_answer_18 : decode cX6_answer 18 = .ok (.ldc2_w 68, 3) := by decide +kernel
theorem dX6_answer_21 : decode cX6_answer 21 = .ok (.goto 4, 3) := by decide +kernel
theorem dX6_answer_24 : decode cX6_answer 24 = .ok (.lconst 0, 1) := by decide +kernel
theorem dX6_answer_25 : decode cX6_answer 25 = .ok (.lstore_n 3, 1) := by decide +kernel
theorem dX6_answer_26 : decode cX6_answer 26 = .ok (.iconst 0, 1) := by decide +kernel
theorem dX6_answer_27 : decode cX6_answer 27 = .ok (.istore 5, 2) := by decide +kernel
theorem dX6_answer_29 : decode cX6_answer 29 = .ok (.iload 5, 2) := by decide +kernel
theorem dX6_answer_31 : decode cX6_answer 31 = .ok (.aload_n 1, 1) := by decide +kernel
theorem dX6_answer_32 : decode cX6_answer 32 = .ok (.getfield 70, 3) := by decide +kernel
theorem dX6_answer_35 : decode cX6_answer 35 = .ok (.getfield 76, 3) := by decide +kernel
theorem dX6_answer_38 : decode cX6_answer 38 = .ok (.iconst 1, 1) := by decide +kernel
theorem dX6_answer_39 : decode cX6_answer 39 = .ok (.iaload, 1) := by decide +kernel
theorem dX6_answer_40 : decode cX6_answer 40 = .ok (.if_icmp .ge 39, 3) := by decide +kernel
theorem dX6_answer_43 : decode cX6_answer 43 = .ok (.aload_n 1, 1) := by decide +kernel
theorem dX6_answer_44 : decode cX6_answer 44 = .ok (.aload_n 2, 1) := by decide +kernel
theorem dX6_answer_45 : decode cX6_answer 45 = .ok (.iload 5, 2) := by decide +kernel
theorem dX6_answer_47 : decode cX6_answer 47 = .ok (.aload_n 0, 1) := by decide +kernel
theorem dX6_answer_48 : decode cX6_answer 48 = .ok (.getfield 20, 3) := by decide +kernel
theorem dX6_answer_51 : decode cX6_answer 51 = .ok (.invokevirtual 81, 3) := by decide +kernel
theorem dX6_answer_54 : decode cX6_answer 54 = .ok (.aload_n 0, 1) := by decide +kernel
theorem dX6_answer_55 : decode cX6_answer 55 = .ok (.lload_n 3, 1) := by decide +kernel
theorem dX6_answer_56 : decode cX6_answer 56 = .ok (.iload 5, 2) := by decide +kernel
theorem dX6_answer_58 : decode cX6_answer 58 = .ok (.aload_n 0, 1) := by decide +kernel
theorem dX6_answer_59 : decode cX6_answer 59 = .ok (.getfield 14, 3) := by decide +kernel
theorem dX6_answer_62 : decode cX6_answer 62 = .ok (.aload_n 0, 1) := by decide +kernel
theorem dX6_answer_63 : decode cX6_answer 63 = .ok (.getfield 20, 3) := by decide +kernel
theorem dX6_answer_66 : decode cX6_answer 66 = .ok (.invokevirtual 85, 3) := by decide +kernel
theorem dX6_answer_69 : decode cX6_answer 69 = .ok (.invokevirtual 88, 3) := by decide +kernel
theorem dX6_answer_72 : decode cX6_answer 72 = .ok (.lstore_n 3, 1) := by decide +kernel
theorem dX6_answer_73 : decode cX6_answer 73 = .ok (.iinc 5 1, 3) := by decide +kernel
theorem dX6_answer_76 : decode cX6_answer 76 = .ok (.goto (-47), 3) := by decide +kernel
theorem dX6_answer_79 : decode cX6_answer 79 = .ok (.lload_n 3, 1) := by decide +kernel
theorem dX6_answer_80 : decode cX6_answer 80 = .ok (.lreturn, 1) := by decide +kernel
def f_X6_answer_29 (a2 : Nat) : Nat → Int64 → Int32 → Hp → Option (Int64 × Hp)
  | 0, _, _, _ => none
  | k + 1, x3, x5, S => ldP yH S 50 0 2 (fun p1 => ldI S (p1 + 1) 3 (1 : Int32) (fun v2 => if v2 ≤ x5 then some (x3, S) else ob (f_X8_describe a2 x5 33 40 S) (fun S3 => ob2 (f_X4_value 40 33 40 S3) (fun r4 S4 => ob2 (f_X6_with x3 x5 r4 S4) (fun r5 S5 => le1 (x5 + (1 : Int32)) (fun v6 => f_X6_answer_29 a2 k r5 v6 S5))))))
set_option maxHeartbeats 4000000 in
set_option maxRecDepth 100000 in
theorem w_X6_answer_29 {p : Program} {l : Launch} {e : Env} {s : State} {m : MethodId} {args : Array Value} {below : List Frame} {meth : Method} {c : Code} {E : Ev} {S0 : Hp} {r : (Int64 × Hp)} (C : ho_I p s m args meth c RX6 cX6_answer 6 (some .long)) (a2 : Nat) (ha2 : a2 ∈ yH.1 ∧ yH.2.1 a2 = (1, 9)) :
    ∀ (k : Nat) (x3 : Int64) (x5 : Int32) (S : Hp), f_X6_answer_29 a2 k x3 x5 S = some r → ho_G p l e s m args below meth c yH E S0 5 6 (some (.long r.1), r.2) 29 [(0, .ref (E.2.1 30)), (1, .ref (E.2.1 50)), (2, .ref (E.2.1 a2)), (3, .long x3), (5, .int x5)] [] S := by
  intro k
  induction k with
  | zero =>
    intro x3 x5 S h
    exact absurd (show (none : Option (Int64 × Hp)) = some r from h) (by simp)
  | succ k ih =>
    intro x3 x5 S h H locs ls hR hl
    rw [f_X6_answer_29] at h
    refine lv_iload C.1 C.2.1 dX6_answer_29 (lv_at hl 4 rfl) ?_
    refine lv_aload_n C.1 C.2.1 dX6_answer_31 rfl (lv_at hl 1 rfl) ?_
    obtain ⟨p1, e1, hp1, h⟩ := ldP_ok h
    refine hr_getP C cf8 fH_RX6_70 hR aH_50 e1 dX6_answer_32 ?_
    refine ho_getR (a' := (p1 + 1)) C cf2 fH_RX6_76 hR hp1 (pH_2_5 hp1.2) dX6_answer_35 ?_
    refine lv_iconst (v := (1 : Int32)) C.1 C.2.1 dX6_answer_38 (by decide) ?_
    obtain ⟨v2, e2, hi2, h⟩ := ldI_ok h
    refine hr_ild C hR (rH_2_1 hp1) hi2 e2 dX6_answer_39 ?_
    refine lv_icmp_ge (tgt := 79) C.1 C.2.1 dX6_answer_40 (by decide) (fun hc => ?_) (fun hc => ?_)
    · replace h := if_t h hc
      refine lv_lload_n C.1 C.2.1 dX6_answer_79 rfl (lv_at hl 3 rfl) ?_
      exact ho_lret C hR h dX6_answer_80
    · replace h := if_f h hc
      refine lv_aload_n C.1 C.2.1 dX6_answer_43 rfl (lv_at hl 1 rfl) ?_
      refine lv_aload_n C.1 C.2.1 dX6_answer_44 rfl (lv_at hl 2 rfl) ?_
      refine lv_iload C.1 C.2.1 dX6_answer_45 (lv_at hl 4 rfl) ?_
      refine lv_aload_n C.1 C.2.1 dX6_answer_47 rfl (lv_at hl 0 rfl) ?_
      refine ho_getR (a' := 33) C cf6 fH_RX6_20 hR aH_30 rfl dX6_answer_48 ?_
      obtain ⟨S3, h3, h⟩ := ob_ok h
      refine hr_Vv (S' := S3) (As := [.ref (E.2.1 a2), .int x5, .ref (E.2.1 33)]) (rest := []) C cf8 (c_X8_describe l E a2 x5 33 40 ha2 aH_33 _ _ h3) yv_X8_describe lk_RX6_81 rfl aH_50 rfl rfl hl.1 (Nat.le_of_ble_eq_true rfl) (by decide) (by decide) hR (ho_A hR) dX6_answer_51 (fun H locs hR => ?_)
      refine lv_aload_n C.1 C.2.1 dX6_answer_54 rfl (lv_at hl 0 rfl) ?_
      refine lv_lload_n C.1 C.2.1 dX6_answer_55 rfl (lv_at hl 3 rfl) ?_
      refine lv_iload C.1 C.2.1 dX6_answer_56 (lv_at hl 4 rfl) ?_
      refine lv_aload_n C.1 C.2.1 dX6_answer_58 rfl (lv_at hl 0 rfl) ?_
      refine ho_getR (a' := 40) C cf6 fH_RX6_14 hR aH_30 rfl dX6_answer_59 ?_
      refine lv_aload_n C.1 C.2.1 dX6_answer_62 rfl (lv_at hl 0 rfl) ?_
      refine ho_getR (a' := 33) C cf6 fH_RX6_20 hR aH_30 rfl dX6_answer_63 ?_
      obtain ⟨r4, S4, h4, h⟩ := ob2_ok h
      refine hr_Vi (v := r4) (S' := S4) (As := [.ref (E.2.1 33)]) (rest := [.int x5, .long x3, .ref (E.2.1 30)]) C cf4 (c_X4_value l E 40 33 40 aH_40 aH_33 _ _ h4) yv_X4_value lk_RX6_85 rfl aH_40 rfl rfl hl.1 (Nat.le_of_ble_eq_true rfl) (by decide) (by decide) hR (ho_A hR) dX6_answer_66 (fun H locs hR => ?_)
      obtain ⟨r5, S5, h5, h⟩ := ob2_ok h
      refine hr_Vl (w := r5) (S' := S5) (As := [.long x3, .int x5, .int r4]) (rest := []) C cf6 (c_X6_with l E x3 x5 r4 _ _ h5) yv_X6_with lk_RX6_88 rfl aH_30 rfl rfl hl.1 (Nat.le_of_ble_eq_true rfl) (by decide) (by decide) hR (ho_A hR) dX6_answer_69 (fun H locs hR => ?_)
      refine lv_lstore_n (lv' := [(3, .long r5), (0, .ref (E.2.1 30)), (1, .ref (E.2.1 50)), (2, .ref (E.2.1 a2)), (5, .int x5)]) C.1 C.2.1 dX6_answer_72 rfl hl (by decide) rfl (fun ls hl => ?_)
      obtain ⟨v6, e6, h⟩ := le1_ok h
      refine lv_iinc (v := v6) (lv' := [(5, .int v6), (3, .long r5), (0, .ref (E.2.1 30)), (1, .ref (E.2.1 50)), (2, .ref (E.2.1 a2))]) C.1 C.2.1 dX6_answer_73 hl (k := 4) rfl (by rw [e6]; rfl) (by decide) rfl (fun ls hl => ?_)
      refine lv_goto (tgt := 29) C.1 C.2.1 dX6_answer_76 (by decide) ?_
      exact ih r5 v6 S5 h _ _ _ hR (lv_sub hl [2, 3, 4, 1, 0] rfl)
def f_X6_answer_25 (a2 : Nat) (z0 : Int64) (S : Hp) : Option (Int64 × Hp) :=
  f_X6_answer_29 a2 5000 z0 (0 : Int32) S
set_option maxHeartbeats 4000000 in
set_option maxRecDepth 100000 in
theorem w_X6_answer_25 {p : Program} {l : Launch} {e : Env} {s : State} {m : MethodId} {args : Array Value} {below : List Frame} {meth : Method} {c : Code} {E : Ev} {S0 : Hp} {r : (Int64 × Hp)} (C : ho_I p s m args meth c RX6 cX6_answer 6 (some .long)) (a2 : Nat) (ha2 : a2 ∈ yH.1 ∧ yH.2.1 a2 = (1, 9)) :
    ∀ (z0 : Int64) (S : Hp), f_X6_answer_25 a2 z0 S = some r → ho_G p l e s m args below meth c yH E S0 5 6 (some (.long r.1), r.2) 25 [(0, .ref (E.2.1 30)), (1, .ref (E.2.1 50)), (2, .ref (E.2.1 a2))] [.long z0] S := by
  intro z0 S h H locs ls hR hl
  unfold f_X6_answer_25 at h
  refine lv_lstore_n (lv' := [(3, .long z0), (0, .ref (E.2.1 30)), (1, .ref (E.2.1 50)), (2, .ref (E.2.1 a2))]) C.1 C.2.1 dX6_answer_25 rfl hl (by decide) rfl (fun ls hl => ?_)
  refine lv_iconst (v := (0 : Int32)) C.1 C.2.1 dX6_answer_26 (by decide) ?_
  refine lv_istore (lv' := [(5, .int (0 : Int32)), (3, .long z0), (0, .ref (E.2.1 30)), (1, .ref (E.2.1 50)), (2, .ref (E.2.1 a2))]) C.1 C.2.1 dX6_answer_27 hl (by decide) rfl (fun ls hl => ?_)
  exact w_X6_answer_29 C a2 ha2 5000 z0 (0 : Int32) S h _ _ _ hR (lv_sub hl [2, 3, 4, 1, 0] rfl)
def f_X6_answer_18 (a2 : Nat) (S : Hp) : Option (Int64 × Hp) :=
  f_X6_answer_25 a2 (-1 : Int64) S
set_option maxHeartbeats 4000000 in
set_option maxRecDepth 100000 in
theorem w_X6_answer_18 {p : Program} {l : Launch} {e : Env} {s : State} {m : MethodId} {args : Array Value} {below : List Frame} {meth : Method} {c : Code} {E : Ev} {S0 : Hp} {r : (Int64 × Hp)} (C : ho_I p s m args meth c RX6 cX6_answer 6 (some .long)) (a2 : Nat) (ha2 : a2 ∈ yH.1 ∧ yH.2.1 a2 = (1, 9)) :
    ∀ (S : Hp), f_X6_answer_18 a2 S = some r → ho_G p l e s m args below meth c yH E S0 5 6 (some (.long r.1), r.2) 18 [(0, .ref (E.2.1 30)), (1, .ref (E.2.1 50)), (2, .ref (E.2.1 a2))] [] S := by
  intro S h H locs ls hR hl
  unfold f_X6_answer_18 at h
  refine lv_ldc2 (v := (-1 : Int64)) C.1 C.2.1 C.2.2.2.2.1 (C.2.2.2.2.2.1 _ kc_RX6_68) dX6_answer_18 ?_
  refine lv_goto (tgt := 25) C.1 C.2.1 dX6_answer_21 (by decide) ?_
  exact w_X6_answer_25 C a2 ha2 (-1 : Int64) S h _ _ _ hR (lv_sub hl [0, 1, 2] rfl)
def f_X6_answer (a2 : Nat) (S : Hp) : Option (Int64 × Hp) :=
  if (S.1 30 4) = (29 : Int32) then f_X6_answer_18 a2 S else if (S.1 30 4) = (30 : Int32) then f_X6_answer_18 a2 S else f_X6_answer_25 a2 (0 : Int64) S
set_option maxHeartbeats 4000000 in
set_option maxRecDepth 100000 in
theorem c_X6_answer (l : Launch) (E : Ev) (a2 : Nat) (ha2 : a2 ∈ yH.1 ∧ yH.2.1 a2 = (1, 9)) (S : Hp) (r : (Int64 × Hp)) (h : f_X6_answer a2 S = some r) : ho_M l yH E yX6_answer cX6_answer 6 (some .long) 5 [.ref (E.2.1 30), .ref (E.2.1 50), .ref (E.2.1 a2)] S (some (.long r.1), r.2) := by
  refine ho_in (by decide) (Nat.le_of_ble_eq_true rfl) ?_
  intro p e s m args below meth c C hR ls hl
  have C : ho_I p s m args meth c RX6 cX6_answer 6 (some .long) := C
  have hl : lv_has ls 6 [(0, .ref (E.2.1 30)), (1, .ref (E.2.1 50)), (2, .ref (E.2.1 a2))] := hl
  unfold f_X6_answer at h
  refine lv_aload_n C.1 C.2.1 dX6_answer_0 rfl (lv_at hl 0 rfl) ?_
  refine ho_getI C cf6 fH_RX6_24 hR aH_30 dX6_answer_1 ?_
  refine lv_bipush (v := (29 : Int32)) C.1 C.2.1 dX6_answer_4 (by decide) ?_
  refine lv_icmp_eq (tgt := 18) C.1 C.2.1 dX6_answer_6 (by decide) (fun hc => ?_) (fun hc => ?_)
  · replace h := if_t h hc
    exact w_X6_answer_18 C a2 ha2 S h _ _ _ hR (lv_sub hl [0, 1, 2] rfl)
  · replace h := if_f h hc
    refine lv_aload_n C.1 C.2.1 dX6_answer_9 rfl (lv_at hl 0 rfl) ?_
    refine ho_getI C cf6 fH_RX6_24 hR aH_30 dX6_answer_10 ?_
    refine lv_bipush (v := (30 : Int32)) C.1 C.2.1 dX6_answer_13 (by decide) ?_
    refine lv_icmp_ne (tgt := 24) C.1 C.2.1 dX6_answer_15 (by decide) (fun hc => ?_) (fun hc => ?_)
    · replace h := if_f h hc
      refine lv_lconst (v := (0 : Int64)) C.1 C.2.1 dX6_answer_24 (by decide) ?_
      exact w_X6_answer_25 C a2 ha2 (0 : Int64) S h _ _ _ hR (lv_sub hl [0, 1, 2] rfl)
    · replace h := if_t h hc
      exact w_X6_answer_18 C a2 ha2 S h _ _ _ hR (lv_sub hl [0, 1, 2] rfl)
theorem dX8_sightFrom_0 : decode cX8_sightFrom 0 = .ok (.iconst 0, 1) := by decide +kernel
theorem dX8_sightFrom_1 : decode cX8_sightFrom 1 = .ok (.istore 4, 2) := by decide +kernel
theorem dX8_sightFrom_3 : decode cX8_sightFrom 3 = .ok (.iconst 0, 1) := by decide +kernel
theorem dX8_sightFrom_4 : decode cX8_sightFrom 4 = .ok (.istore 5, 2) := by decide +kernel
theorem dX8_sightFrom_6 : decode cX8_sightFrom 6 = .ok (.iload 5, 2) := by decide +kernel
theorem dX8_sightFrom_8 : decode cX8_sightFrom 8 = .ok (.aload_n 0, 1) := by decide +kernel
theorem dX8_sightFrom_9 : decode cX8_sightFrom 9 = .ok (.getfield 36, 3) := by decide +kernel
theorem dX8_sightFrom_12 : decode cX8_sightFrom 12 = .ok (.getfield 75, 3) := by decide +kernel
theorem dX8_sightFrom_15 : decode cX8_sightFrom 15 = .ok (.iconst 1, 1) := by decide +kernel
theorem dX8_sightFrom_16 : decode cX8_sightFrom 16 = .ok (.iaload, 1) := by decide +kernel
theorem dX8_sightFrom_17 : decode cX8_sightFrom 17 = .ok (.if_icmp .ge 23, 3) := by decide +kernel
theorem dX8_sightFrom_20 : decode cX8_sightFrom 20 = .ok (.iload 4, 2) := by decide +kernel
theorem dX8_sightFrom_22 : decode cX8_sightFrom 22 = .ok (.aload_n 0, 1) := by decide +kernel
theorem dX8_sightFrom_23 : decode cX8_sightFrom 23 = .ok (.aload_n 1, 1) := by decide +kernel
theorem dX8_sightFrom_24 : decode cX8_sightFrom 24 = .ok (.iload 5, 2) := by decide +kernel
theorem dX8_sightFrom_26 : decode cX8_sightFrom 26 = .ok (.iload_n 2, 1) := by decide +kernel
theorem dX8_sightFrom_27 : decode cX8_sightFrom 27 = .ok (.iload_n 3, 1) := by decide +kernel
theorem dX8_sightFrom_28 : decode cX8_sightFrom 28 = .ok (.invokevirtual 81, 3) := by decide +kernel
theorem dX8_sightFrom_31 : decode cX8_sightFrom 31 = .ok (.iadd, 1) := by decide +kernel
theorem dX8_sightFrom_32 : decode cX8_sightFrom 32 = .ok (.istore 4, 2) := by decide +kernel
theorem dX8_sightFrom_34 : decode cX8_sightFrom 34 = .ok (.iinc 5 1, 3) := by decide +kernel
theorem dX8_sightFrom_37 : decode cX8_sightFrom 37 = .ok (.goto (-31), 3) := by decide +kernel
theorem dX8_sightFrom_40 : decode cX8_sightFrom 40 = .ok (.iload 4, 2) := by decide +kernel
theorem dX8_sightFrom_42 : decode cX8_sightFrom 42 = .ok (.ireturn, 1) := by decide +kernel
def f_X8_sightFrom_6 (a1 : Nat) : Nat → Int32 → Int32 → Int32 → Int32 → Hp → Option (Int32 × Hp)
  | 0, _, _, _, _, _ => none
  | k + 1, x2, x3, x4, x5, S => ldP yH S 50 0 2 (fun p1 => ldI S (p1 + 1) 3 (1 : Int32) (fun v2 => if v2 ≤ x5 then some (x4, S) else ob2 (f_X8_glimpse a1 x5 x2 x3 S) (fun r3 S3 => le1 (x4 + r3) (fun v4 => le1 (x5 + (1 : Int32)) (fun v5 => f_X8_sightFrom_6 a1 k x2 x3 v4 v5 S3)))))
set_option maxHeartbeats 4000000 in
set_option maxRecDepth 100000 in
theorem w_X8_sightFrom_6 {p : Program} {l : Launch} {e : Env} {s : State} {m : MethodId} {args : Array Value} {below : List Frame} {meth : Method} {c : Code} {E : Ev} {S0 : Hp} {r : (Int32 × Hp)} (C : ho_I p s m args meth c RX8 cX8_sightFrom 6 (some .int)) (a1 : Nat) (ha1 : a1 ∈ yH.1 ∧ yH.2.1 a1 = (1, 9)) :
    ∀ (k : Nat) (x2 : Int32) (x3 : Int32) (x4 : Int32) (x5 : Int32) (S : Hp), f_X8_sightFrom_6 a1 k x2 x3 x4 x5 S = some r → ho_G p l e s m args below meth c yH E S0 4 6 (some (.int r.1), r.2) 6 [(0, .ref (E.2.1 50)), (1, .ref (E.2.1 a1)), (2, .int x2), (3, .int x3), (4, .int x4), (5, .int x5)] [] S := by
  intro k
  induction k with
  | zero =>
    intro x2 x3 x4 x5 S h
    exact absurd (show (none : Option (Int32 × Hp)) = some r from h) (by simp)
  | succ k ih =>
    intro x2 x3 x4 x5 S h H locs ls hR hl
    rw [f_X8_sightFrom_6] at h
    refine lv_iload C.1 C.2.1 dX8_sightFrom_6 (lv_at hl 5 rfl) ?_
    refine lv_aload_n C.1 C.2.1 dX8_sightFrom_8 rfl (lv_at hl 0 rfl) ?_
    obtain ⟨p1, e1, hp1, h⟩ := ldP_ok h
    refine hr_getP C cf8 fH_RX8_36 hR aH_50 e1 dX8_sightFrom_9 ?_
    refine ho_getR (a' := (p1 + 1)) C cf2 fH_RX8_75 hR hp1 (pH_2_5 hp1.2) dX8_sightFrom_12 ?_
    refine lv_iconst (v := (1 : Int32)) C.1 C.2.1 dX8_sightFrom_15 (by decide) ?_
    obtain ⟨v2, e2, hi2, h⟩ := ldI_ok h
    refine hr_ild C hR (rH_2_1 hp1) hi2 e2 dX8_sightFrom_16 ?_
    refine lv_icmp_ge (tgt := 40) C.1 C.2.1 dX8_sightFrom_17 (by decide) (fun hc => ?_) (fun hc => ?_)
    · replace h := if_t h hc
      refine lv_iload C.1 C.2.1 dX8_sightFrom_40 (lv_at hl 4 rfl) ?_
      exact ho_iret C hR h dX8_sightFrom_42
    · replace h := if_f h hc
      refine lv_iload C.1 C.2.1 dX8_sightFrom_20 (lv_at hl 4 rfl) ?_
      refine lv_aload_n C.1 C.2.1 dX8_sightFrom_22 rfl (lv_at hl 0 rfl) ?_
      refine lv_aload_n C.1 C.2.1 dX8_sightFrom_23 rfl (lv_at hl 1 rfl) ?_
      refine lv_iload C.1 C.2.1 dX8_sightFrom_24 (lv_at hl 5 rfl) ?_
      refine lv_iload_n C.1 C.2.1 dX8_sightFrom_26 rfl (lv_at hl 2 rfl) ?_
      refine lv_iload_n C.1 C.2.1 dX8_sightFrom_27 rfl (lv_at hl 3 rfl) ?_
      obtain ⟨r3, S3, h3, h⟩ := ob2_ok h
      refine hr_Vi (v := r3) (S' := S3) (As := [.ref (E.2.1 a1), .int x5, .int x2, .int x3]) (rest := [.int x4]) C cf8 (c_X8_glimpse l E a1 x5 x2 x3 ha1 _ _ h3) yv_X8_glimpse lk_RX8_81 rfl aH_50 rfl rfl hl.1 (Nat.le_of_ble_eq_true rfl) (by decide) (by decide) hR (ho_A hR) dX8_sightFrom_28 (fun H locs hR => ?_)
      refine lv_iadd C.1 C.2.1 dX8_sightFrom_31 ?_
      refine lv_topi (fun v4 e4 => ?_)
      replace h := le1_at e4 h
      refine lv_istore (lv' := [(4, .int v4), (0, .ref (E.2.1 50)), (1, .ref (E.2.1 a1)), (2, .int x2), (3, .int x3), (5, .int x5)]) C.1 C.2.1 dX8_sightFrom_32 hl (by decide) rfl (fun ls hl => ?_)
      obtain ⟨v5, e5, h⟩ := le1_ok h
      refine lv_iinc (v := v5) (lv' := [(5, .int v5), (4, .int v4), (0, .ref (E.2.1 50)), (1, .ref (E.2.1 a1)), (2, .int x2), (3, .int x3)]) C.1 C.2.1 dX8_sightFrom_34 hl (k := 5) rfl (by rw [e5]; rfl) (by decide) rfl (fun ls hl => ?_)
      refine lv_goto (tgt := 6) C.1 C.2.1 dX8_sightFrom_37 (by decide) ?_
      exact ih x2 x3 v4 v5 S3 h _ _ _ hR (lv_sub hl [2, 3, 4, 5, 1, 0] rfl)
def f_X8_sightFrom (a1 : Nat) (x2 : Int32) (x3 : Int32) (S : Hp) : Option (Int32 × Hp) :=
  f_X8_sightFrom_6 a1 5000 x2 x3 (0 : Int32) (0 : Int32) S
set_option maxHeartbeats 4000000 in
set_option maxRecDepth 100000 in
theorem c_X8_sightFrom (l : Launch) (E : Ev) (a1 : Nat) (x2 : Int32) (x3 : Int32) (ha1 : a1 ∈ yH.1 ∧ yH.2.1 a1 = (1, 9)) (S : Hp) (r : (Int32 × Hp)) (h : f_X8_sightFrom a1 x2 x3 S = some r) : ho_M l yH E yX8_sightFrom cX8_sightFrom 6 (some .int) 4 [.ref (E.2.1 50), .ref (E.2.1 a1), .int x2, .int x3] S (some (.int r.1), r.2) := by
  refine ho_in (by decide) (Nat.le_of_ble_eq_true rfl) ?_
  intro p e s m args below meth c C hR ls hl
  have C : ho_I p s m args meth c RX8 cX8_sightFrom 6 (some .int) := C
  have hl : lv_has ls 6 [(0, .ref (E.2.1 50)), (1, .ref (E.2.1 a1)), (2, .int x2), (3, .int x3)] := hl
  unfold f_X8_sightFrom at h
  refine lv_iconst (v := (0 : Int32)) C.1 C.2.1 dX8_sightFrom_0 (by decide) ?_
  refine lv_istore (lv' := [(4, .int (0 : Int32)), (0, .ref (E.2.1 50)), (1, .ref (E.2.1 a1)), (2, .int x2), (3, .int x3)]) C.1 C.2.1 dX8_sightFrom_1 hl (by decide) rfl (fun ls hl => ?_)
  refine lv_iconst (v := (0 : Int32)) C.1 C.2.1 dX8_sightFrom_3 (by decide) ?_
  refine lv_istore (lv' := [(5, .int (0 : Int32)), (4, .int (0 : Int32)), (0, .ref (E.2.1 50)), (1, .ref (E.2.1 a1)), (2, .int x2), (3, .int x3)]) C.1 C.2.1 dX8_sightFrom_4 hl (by decide) rfl (fun ls hl => ?_)
  exact w_X8_sightFrom_6 C a1 ha1 5000 x2 x3 (0 : Int32) (0 : Int32) S h _ _ _ hR (lv_sub hl [2, 3, 4, 5, 1, 0] rfl)
theorem dX8_seenByAny_0 : decode cX8_seenByAny 0 = .ok (.iconst 0, 1) := by decide +kernel
theorem dX8_seenByAny_1 : decode cX8_seenByAny 1 = .ok (.istore_n 2, 1) := by decide +kernel
theorem dX8_seenByAny_2 : decode cX8_seenByAny 2 = .ok (.iconst 0, 1) := by decide +kernel
theorem dX8_seenByAny_3 : decode cX8_seenByAny 3 = .ok (.istore_n 3, 1) := by decide +kernel
theorem dX8_seenByAny_4 : decode cX8_seenByAny 4 = .ok (.iload_n 3, 1) := by decide +kernel
theorem dX8_seenByAny_5 : decode cX8_seenByAny 5 = .ok (.aload_n 0, 1) := by decide +kernel
theorem dX8_seenByAny_6 : decode cX8_seenByAny 6 = .ok (.getfield 36, 3) := by decide +kernel
theorem dX8_seenByAny_9 : decode cX8_seenByAny 9 = .ok (.getfield 75, 3) := by decide +kernel
theorem dX8_seenByAny_12 : decode cX8_seenByAny 12 = .ok (.iconst 2, 1) := by decide +kernel
theorem dX8_seenByAny_13 : decode cX8_seenByAny 13 = .ok (.iaload, 1) := by decide +kernel
theorem dX8_seenByAny_14 : decode cX8_seenByAny 14 = .ok (.if_icmp .ge 27, 3) := by decide +kernel
theorem dX8_seenByAny_17 : decode cX8_seenByAny 17 = .ok (.iload_n 1, 1) := by decide +kernel
theorem dX8_seenByAny_18 : decode cX8_seenByAny 18 = .ok (.iload_n 3, 1) := by decide +kernel
theorem dX8_seenByAny_19 : decode cX8_seenByAny 19 = .ok (.ishr, 1) := by decide +kernel
theorem dX8_seenByAny_20 : decode cX8_seenByAny 20 = .ok (.iconst 1, 1) := by decide +kernel
theorem dX8_seenByAny_21 : decode cX8_seenByAny 21 = .ok (.iand, 1) := by decide +kernel
theorem dX8_seenByAny_22 : decode cX8_seenByAny 22 = .ok (.iconst 1, 1) := by decide +kernel
theorem dX8_seenByAny_23 : decode cX8_seenByAny 23 = .ok (.if_icmp .ne 12, 3) := by decide +kernel
theorem dX8_seenByAny_26 : decode cX8_seenByAny 26 = .ok (.iload_n 2, 1) := by decide +kernel
theorem dX8_seenByAny_27 : decode cX8_seenByAny 27 = .ok (.aload_n 0, 1) := by decide +kernel
theorem dX8_seenByAny_28 : decode cX8_seenByAny 28 = .ok (.getfield 33, 3) := by decide +kernel
theorem dX8_seenByAny_31 : decode cX8_seenByAny 31 = .ok (.iload_n 3, 1) := by decide +kernel
theorem dX8_seenByAny_32 : decode cX8_seenByAny 32 = .ok (.iaload, 1) := by decide +kernel
theorem dX8_seenByAny_33 : decode cX8_seenByAny 33 = .ok (.ior, 1) := by decide +kernel
theorem dX8_seenByAny_34 : decode cX8_seenByAny 34 = .ok (.istore_n 2, 1) := by decide +kernel
theorem dX8_seenByAny_35 : decode cX8_seenByAny 35 = .ok (.iinc 3 1, 3) := by decide +kernel
theorem dX8_seenByAny_38 : decode cX8_seenByAny 38 = .ok (.goto (-34), 3) := by decide +kernel
theorem dX8_seenByAny_41 : decode cX8_seenByAny 41 = .ok (.iload_n 2, 1) := by decide +kernel
theorem dX8_seenByAny_42 : decode cX8_seenByAny 42 = .ok (.ireturn, 1) := by decide +kernel
def f_X8_seenByAny_35 (K4 : Int32 → Int32 → Int32 → Hp → Option (Int32 × Hp)) (x1 : Int32) (x2 : Int32) (x3 : Int32) (S : Hp) : Option (Int32 × Hp) :=
  le1 (x3 + (1 : Int32)) (fun v1 => K4 x1 x2 v1 S)
set_option maxHeartbeats 4000000 in
set_option maxRecDepth 100000 in
theorem w_X8_seenByAny_35 {p : Program} {l : Launch} {e : Env} {s : State} {m : MethodId} {args : Array Value} {below : List Frame} {meth : Method} {c : Code} {E : Ev} {S0 : Hp} {r : (Int32 × Hp)} (C : ho_I p s m args meth c RX8 cX8_seenByAny 4 (some .int)) (K4 : Int32 → Int32 → Int32 → Hp → Option (Int32 × Hp)) (hK4 : ∀ (y1 : Int32) (y2 : Int32) (y3 : Int32) (S : Hp), K4 y1 y2 y3 S = some r → ho_G p l e s m args below meth c yH E S0 0 4 (some (.int r.1), r.2) 4 [(0, .ref (E.2.1 50)), (1, .int y1), (2, .int y2), (3, .int y3)] [] S) :
    ∀ (x1 : Int32) (x2 : Int32) (x3 : Int32) (S : Hp), f_X8_seenByAny_35 K4 x1 x2 x3 S = some r → ho_G p l e s m args below meth c yH E S0 0 4 (some (.int r.1), r.2) 35 [(0, .ref (E.2.1 50)), (1, .int x1), (2, .int x2), (3, .int x3)] [] S := by
  intro x1 x2 x3 S h H locs ls hR hl
  unfold f_X8_seenByAny_35 at h
  obtain ⟨v1, e1, h⟩ := le1_ok h
  refine lv_iinc (v := v1) (lv' := [(3, .int v1), (0, .ref (E.2.1 50)), (1, .int x1), (2, .int x2)]) C.1 C.2.1 dX8_seenByAny_35 hl (k := 3) rfl (by rw [e1]; rfl) (by decide) rfl (fun ls hl => ?_)
  refine lv_goto (tgt := 4) C.1 C.2.1 dX8_seenByAny_38 (by decide) ?_
  exact hK4 x1 x2 v1 S h _ _ _ hR (lv_sub hl [1, 2, 3, 0] rfl)
def f_X8_seenByAny_4 : Nat → Int32 → Int32 → Int32 → Hp → Option (Int32 × Hp)
  | 0, _, _, _, _ => none
  | k + 1, x1, x2, x3, S => ldP yH S 50 0 2 (fun p1 => ldI S (p1 + 1) 3 (2 : Int32) (fun v2 => if v2 ≤ x3 then some (x2, S) else if ((x1 >>> (x3 &&& 31)) &&& (1 : Int32)) = (1 : Int32) then ldI S 54 5 x3 (fun v3 => le1 (x2 ||| v3) (fun v4 => f_X8_seenByAny_35 (f_X8_seenByAny_4 k) x1 v4 x3 S)) else f_X8_seenByAny_35 (f_X8_seenByAny_4 k) x1 x2 x3 S))
set_option maxHeartbeats 4000000 in
set_option maxRecDepth 100000 in
theorem w_X8_seenByAny_4 {p : Program} {l : Launch} {e : Env} {s : State} {m : MethodId} {args : Array Value} {below : List Frame} {meth : Method} {c : Code} {E : Ev} {S0 : Hp} {r : (Int32 × Hp)} (C : ho_I p s m args meth c RX8 cX8_seenByAny 4 (some .int)) :
    ∀ (k : Nat) (x1 : Int32) (x2 : Int32) (x3 : Int32) (S : Hp), f_X8_seenByAny_4 k x1 x2 x3 S = some r → ho_G p l e s m args below meth c yH E S0 0 4 (some (.int r.1), r.2) 4 [(0, .ref (E.2.1 50)), (1, .int x1), (2, .int x2), (3, .int x3)] [] S := by
  intro k
  induction k with
  | zero =>
    intro x1 x2 x3 S h
    exact absurd (show (none : Option (Int32 × Hp)) = some r from h) (by simp)
  | succ k ih =>
    intro x1 x2 x3 S h H locs ls hR hl
    rw [f_X8_seenByAny_4] at h
    refine lv_iload_n C.1 C.2.1 dX8_seenByAny_4 rfl (lv_at hl 3 rfl) ?_
    refine lv_aload_n C.1 C.2.1 dX8_seenByAny_5 rfl (lv_at hl 0 rfl) ?_
    obtain ⟨p1, e1, hp1, h⟩ := ldP_ok h
    refine hr_getP C cf8 fH_RX8_36 hR aH_50 e1 dX8_seenByAny_6 ?_
    refine ho_getR (a' := (p1 + 1)) C cf2 fH_RX8_75 hR hp1 (pH_2_5 hp1.2) dX8_seenByAny_9 ?_
    refine lv_iconst (v := (2 : Int32)) C.1 C.2.1 dX8_seenByAny_12 (by decide) ?_
    obtain ⟨v2, e2, hi2, h⟩ := ldI_ok h
    refine hr_ild C hR (rH_2_1 hp1) hi2 e2 dX8_seenByAny_13 ?_
    refine lv_icmp_ge (tgt := 41) C.1 C.2.1 dX8_seenByAny_14 (by decide) (fun hc => ?_) (fun hc => ?_)
    · replace h := if_t h hc
      refine lv_iload_n C.1 C.2.1 dX8_seenByAny_41 rfl (lv_at hl 2 rfl) ?_
      exact ho_iret C hR h dX8_seenByAny_42
    · replace h := if_f h hc
      refine lv_iload_n C.1 C.2.1 dX8_seenByAny_17 rfl (lv_at hl 1 rfl) ?_
      refine lv_iload_n C.1 C.2.1 dX8_seenByAny_18 rfl (lv_at hl 3 rfl) ?_
      refine lv_ishr C.1 C.2.1 dX8_seenByAny_19 ?_
      refine lv_iconst (v := (1 : Int32)) C.1 C.2.1 dX8_seenByAny_20 (by decide) ?_
      refine lv_iand C.1 C.2.1 dX8_seenByAny_21 ?_
      refine lv_iconst (v := (1 : Int32)) C.1 C.2.1 dX8_seenByAny_22 (by decide) ?_
      refine lv_icmp_ne (tgt := 35) C.1 C.2.1 dX8_seenByAny_23 (by decide) (fun hc => ?_) (fun hc => ?_)
      · replace h := if_f h hc
        exact w_X8_seenByAny_35 C (f_X8_seenByAny_4 k) ih x1 x2 x3 S h _ _ _ hR (lv_sub hl [0, 1, 2, 3] rfl)
      · replace h := if_t h hc
        refine lv_iload_n C.1 C.2.1 dX8_seenByAny_26 rfl (lv_at hl 2 rfl) ?_
        refine lv_aload_n C.1 C.2.1 dX8_seenByAny_27 rfl (lv_at hl 0 rfl) ?_
        refine ho_getR (a' := 54) C cf8 fH_RX8_33 hR aH_50 rfl dX8_seenByAny_28 ?_
        refine lv_iload_n C.1 C.2.1 dX8_seenByAny_31 rfl (lv_at hl 3 rfl) ?_
        obtain ⟨v3, e3, hi3, h⟩ := ldI_ok h
        refine hr_ild C hR aH_54 hi3 e3 dX8_seenByAny_32 ?_
        refine lv_ior C.1 C.2.1 dX8_seenByAny_33 ?_
        refine lv_topi (fun v4 e4 => ?_)
        replace h := le1_at e4 h
        refine lv_istore_n (lv' := [(2, .int v4), (0, .ref (E.2.1 50)), (1, .int x1), (3, .int x3)]) C.1 C.2.1 dX8_seenByAny_34 rfl hl (by decide) rfl (fun ls hl => ?_)
        exact w_X8_seenByAny_35 C (f_X8_seenByAny_4 k) ih x1 v4 x3 S h _ _ _ hR (lv_sub hl [1, 2, 0, 3] rfl)
def f_X8_seenByAny (x1 : Int32) (S : Hp) : Option (Int32 × Hp) :=
  f_X8_seenByAny_4 5000 x1 (0 : Int32) (0 : Int32) S
set_option maxHeartbeats 4000000 in
set_option maxRecDepth 100000 in
theorem c_X8_seenByAny (l : Launch) (E : Ev) (x1 : Int32) (S : Hp) (r : (Int32 × Hp)) (h : f_X8_seenByAny x1 S = some r) : ho_M l yH E yX8_seenByAny cX8_seenByAny 4 (some .int) 0 [.ref (E.2.1 50), .int x1] S (some (.int r.1), r.2) := by
  refine ho_in (by decide) (Nat.le_of_ble_eq_true rfl) ?_
  intro p e s m args below meth c C hR ls hl
  have C : ho_I p s m args meth c RX8 cX8_seenByAny 4 (some .int) := C
  have hl : lv_has ls 4 [(0, .ref (E.2.1 50)), (1, .int x1)] := hl
  unfold f_X8_seenByAny at h
  refine lv_iconst (v := (0 : Int32)) C.1 C.2.1 dX8_seenByAny_0 (by decide) ?_
  refine lv_istore_n (lv' := [(2, .int (0 : Int32)), (0, .ref (E.2.1 50)), (1, .int x1)]) C.1 C.2.1 dX8_seenByAny_1 rfl hl (by decide) rfl (fun ls hl => ?_)
  refine lv_iconst (v := (0 : Int32)) C.1 C.2.1 dX8_seenByAny_2 (by decide) ?_
  refine lv_istore_n (lv' := [(3, .int (0 : Int32)), (2, .int (0 : Int32)), (0, .ref (E.2.1 50)), (1, .int x1)]) C.1 C.2.1 dX8_seenByAny_3 rfl hl (by decide) rfl (fun ls hl => ?_)
  exact w_X8_seenByAny_4 C 5000 x1 (0 : Int32) (0 : Int32) S h _ _ _ hR (lv_sub hl [2, 3, 1, 0] rfl)
theorem dX8_fewestWatchers_0 : decode cX8_fewestWatchers 0 = .ok (.aload_n 0, 1) := by decide +kernel
theorem dX8_fewestWatchers_1 : decode cX8_fewestWatchers 1 = .ok (.getfield 36, 3) := by decide +kernel
theorem dX8_fewestWatchers_4 : decode cX8_fewestWatchers 4 = .ok (.getfield 75, 3) := by decide +kernel
theorem dX8_fewestWatchers_7 : decode cX8_fewestWatchers 7 = .ok (.iconst 2, 1) := by decide +kernel
theorem dX8_fewestWatchers_8 : decode cX8_fewestWatchers 8 = .ok (.iaload, 1) := by decide +kernel
theorem dX8_fewestWatchers_9 : decode cX8_fewestWatchers 9 = .ok (.istore_n 3, 1) := by decide +kernel
theorem dX8_fewestWatchers_10 : decode cX8_fewestWatchers 10 = .ok (.aload_n 0, 1) := by decide +kernel
theorem dX8_fewestWatchers_11 : decode cX8_fewestWatchers 11 = .ok (.getfield 36, 3) := by decide +kernel
theorem dX8_fewestWatchers_14 : decode cX8_fewestWatchers 14 = .ok (.getfield 75, 3) := by decide +kernel
theorem dX8_fewestWatchers_17 : decode cX8_fewestWatchers 17 = .ok (.iconst 1, 1) := by decide +kernel
theorem dX8_fewestWatchers_18 : decode cX8_fewestWatchers 18 = .ok (.iaload, 1) := by decide +kernel
theorem dX8_fewestWatchers_19 : decode cX8_fewestWatchers 19 = .ok (.istore 4, 2) := by decide +kernel
theorem dX8_fewestWatchers_21 : decode cX8_fewestWatchers 21 = .ok (.iconst 0, 1) := by decide +kernel
theorem dX8_fewestWatchers_22 : decode cX8_fewestWatchers 22 = .ok (.istore 5, 2) := by decide +kernel
theorem dX8_fewestWatchers_24 : decode cX8_fewestWatchers 24 = .ok (.iload 5, 2) := by decide +kernel
theorem dX8_fewestWatchers_26 : decode cX8_fewestWatchers 26 = .ok (.iload_n 3, 1) := by decide +kernel
theorem dX8_fewestWatchers_27 : decode cX8_fewestWatchers 27 = .ok (.if_icmp .ge 67, 3) := by decide +kernel
theorem dX8_fewestWatchers_30 : decode cX8_fewestWatchers 30 = .ok (.aload_n 0, 1) := by decide +kernel
theorem dX8_fewestWatchers_31 : decode cX8_fewestWatchers 31 = .ok (.getfield 33, 3) := by decide +kernel
theorem dX8_fewestWatchers_34 : decode cX8_fewestWatchers 34 = .ok (.iload 5, 2) := by decide +kernel
theorem dX8_fewestWatchers_36 : decode cX8_fewestWatchers 36 = .ok (.iconst 0, 1) := by decide +kernel
theorem dX8_fewestWatchers_37 : decode cX8_fewestWatchers 37 = .ok (.iastore, 1) := by decide +kernel
theorem dX8_fewestWatchers_38 : decode cX8_fewestWatchers 38 = .ok (.iconst 0, 1) := by decide +kernel
theorem dX8_fewestWatchers_39 : decode cX8_fewestWatchers 39 = .ok (.istore 6, 2) := by decide +kernel
theorem dX8_fewestWatchers_41 : decode cX8_fewestWatchers 41 = .ok (.iload 6, 2) := by decide +kernel
theorem dX8_fewestWatchers_43 : decode cX8_fewestWatchers 43 = .ok (.iload 4, 2) := by decide +kernel
theorem dX8_fewestWatchers_45 : decode cX8_fewestWatchers 45 = .ok (.if_icmp .ge 43, 3) := by decide +kernel
theorem dX8_fewestWatchers_48 : decode cX8_fewestWatchers 48 = .ok (.aload_n 0, 1) := by decide +kernel
theorem dX8_fewestWatchers_49 : decode cX8_fewestWatchers 49 = .ok (.aload_n 1, 1) := by decide +kernel
theorem dX8_fewestWatchers_50 : decode cX8_fewestWatchers 50 = .ok (.iload 6, 2) := by decide +kernel
theorem dX8_fewestWatchers_52 : decode cX8_fewestWatchers 52 = .ok (.iload 5, 2) := by decide +kernel
theorem dX8_fewestWatchers_54 : decode cX8_fewestWatchers 54 = .ok (.aload_n 1, 1) := by decide +kernel
theorem dX8_fewestWatchers_55 : decode cX8_fewestWatchers 55 = .ok (.getfield 78, 3) := by decide +kernel
theorem dX8_fewestWatchers_58 : decode cX8_fewestWatchers 58 = .ok (.iload 5, 2) := by decide +kernel
theorem dX8_fewestWatchers_60 : decode cX8_fewestWatchers 60 = .ok (.iaload, 1) := by decide +kernel
theorem dX8_fewestWatchers_61 : decode cX8_fewestWatchers 61 = .ok (.invokevirtual 81, 3) := by decide +kernel
theorem dX8_fewestWatchers_64 : decode cX8_fewestWatchers 64 = .ok (.iload_n 2, 1) := by decide +kernel
theorem dX8_fewestWatchers_65 : decode cX8_fewestWatchers 65 = .ok (.if_icmp .lt 17, 3) := by decide +kernel
theorem dX8_fewestWatchers_68 : decode cX8_fewestWatchers 68 = .ok (.aload_n 0, 1) := by decide +kernel
theorem dX8_fewestWatchers_69 : decode cX8_fewestWatchers 69 = .ok (.getfield 33, 3) := by decide +kernel
theorem dX8_fewestWatchers_72 : decode cX8_fewestWatchers 72 = .ok (.iload 5, 2) := by decide +kernel
theorem dX8_fewestWatchers_74 : decode cX8_fewestWatchers 74 = .ok (.dup2, 1) := by decide +kernel
theorem dX8_fewestWatchers_75 : decode cX8_fewestWatchers 75 = .ok (.iaload, 1) := by decide +kernel
theorem dX8_fewestWatchers_76 : decode cX8_fewestWatchers 76 = .ok (.iconst 1, 1) := by decide +kernel
theorem dX8_fewestWatchers_77 : decode cX8_fewestWatchers 77 = .ok (.iload 6, 2) := by decide +kernel
theorem dX8_fewestWatchers_79 : decode cX8_fewestWatchers 79 = .ok (.ishl, 1) := by decide +kernel
theorem dX8_fewestWatchers_80 : decode cX8_fewestWatchers 80 = .ok (.ior, 1) := by decide +kernel
theorem dX8_fewestWatchers_81 : decode cX8_fewestWatchers 81 = .ok (.iastore, 1) := by decide +kernel
theorem dX8_fewestWatchers_82 : decode cX8_fewestWatchers 82 = .ok (.iinc 6 1, 3) := by decide +kernel
theorem dX8_fewestWatchers_85 : decode cX8_fewestWatchers 85 = .ok (.goto (-44), 3) := by decide +kernel
theorem dX8_fewestWatchers_88 : decode cX8_fewestWatchers 88 = .ok (.iinc 5 1, 3) := by decide +kernel
theorem dX8_fewestWatchers_91 : decode cX8_fewestWatchers 91 = .ok (.goto (-67), 3) := by decide +kernel
theorem dX8_fewestWatchers_94 : decode cX8_fewestWatchers 94 = .ok (.iconst (-1), 1) := by decide +kernel
theorem dX8_fewestWatchers_95 : decode cX8_fewestWatchers 95 = .ok (.istore 5, 2) := by decide +kernel
theorem dX8_fewestWatchers_97 : decode cX8_fewestWatchers 97 = .ok (.iconst 0, 1) := by decide +kernel
theorem dX8_fewestWatchers_98 : decode cX8_fewestWatchers 98 = .ok (.istore 6, 2) := by decide +kernel
theorem dX8_fewestWatchers_100 : decode cX8_fewestWatchers 100 = .ok (.iload 6, 2) := by decide +kernel
theorem dX8_fewestWatchers_102 : decode cX8_fewestWatchers 102 = .ok (.iconst 1, 1) := by decide +kernel
theorem dX8_fewestWatchers_103 : decode cX8_fewestWatchers 103 = .ok (.iload_n 3, 1) := by decide +kernel
theorem dX8_fewestWatchers_104 : decode cX8_fewestWatchers 104 = .ok (.ishl, 1) := by decide +kernel
theorem dX8_fewestWatchers_105 : decode cX8_fewestWatchers 105 = .ok (.if_icmp .ge 59, 3) := by decide +kernel
theorem dX8_fewestWatchers_108 : decode cX8_fewestWatchers 108 = .ok (.iload 5, 2) := by decide +kernel
theorem dX8_fewestWatchers_110 : decode cX8_fewestWatchers 110 = .ok (.iconst (-1), 1) := by decide +kernel
theorem dX8_fewestWatchers_111 : decode cX8_fewestWatchers 111 = .ok (.if_icmp .eq 16, 3) := by decide +kernel
theorem dX8_fewestWatchers_114 : decode cX8_fewestWatchers 114 = .ok (.iload 6, 2) := by decide +kernel
theorem dX8_fewestWatchers_116 : decode cX8_fewestWatchers 116 = .ok (.invokestatic 136, 3) := by decide +kernel
theorem dX8_fewestWatchers_119 : decode cX8_fewestWatchers 119 = .ok (.iload 5, 2) := by decide +kernel
theorem dX8_fewestWatchers_121 : decode cX8_fewestWatchers 121 = .ok (.invokestatic 136, 3) := by decide +kernel
theorem dX8_fewestWatchers_124 : decode cX8_fewestWatchers 124 = .ok (.if_icmp .ge 7, 3) := by decide +kernel
theorem dX8_fewestWatchers_127 : decode cX8_fewestWatchers 127 = .ok (.iconst 1, 1) := by decide +kernel
theorem dX8_fewestWatchers_128 : decode cX8_fewestWatchers 128 = .ok (.goto 4, 3) := by decide +kernel
theorem dX8_fewestWatchers_131 : decode cX8_fewestWatchers 131 = .ok (.iconst 0, 1) := by decide +kernel
theorem dX8_fewestWatchers_132 : decode cX8_fewestWatchers 132 = .ok (.istore 7, 2) := by decide +kernel
theorem dX8_fewestWatchers_134 : decode cX8_fewestWatchers 134 = .ok (.iload 7, 2) := by decide +kernel
theorem dX8_fewestWatchers_136 : decode cX8_fewestWatchers 136 = .ok (.ifCond .eq 22, 3) := by decide +kernel
theorem dX8_fewestWatchers_139 : decode cX8_fewestWatchers 139 = .ok (.aload_n 0, 1) := by decide +kernel
theorem dX8_fewestWatchers_140 : decode cX8_fewestWatchers 140 = .ok (.iload 6, 2) := by decide +kernel
theorem dX8_fewestWatchers_142 : decode cX8_fewestWatchers 142 = .ok (.invokevirtual 176, 3) := by decide +kernel
theorem dX8_fewestWatchers_145 : decode cX8_fewestWatchers 145 = .ok (.iconst 1, 1) := by decide +kernel
theorem dX8_fewestWatchers_146 : decode cX8_fewestWatchers 146 = .ok (.iload 4, 2) := by decide +kernel
theorem dX8_fewestWatchers_148 : decode cX8_fewestWatchers 148 = .ok (.ishl, 1) := by decide +kernel
theorem dX8_fewestWatchers_149 : decode cX8_fewestWatchers 149 = .ok (.iconst 1, 1) := by decide +kernel
theorem dX8_fewestWatchers_150 : decode cX8_fewestWatchers 150 = .ok (.isub, 1) := by decide +kernel
theorem dX8_fewestWatchers_151 : decode cX8_fewestWatchers 151 = .ok (.if_icmp .ne 7, 3) := by decide +kernel
theorem dX8_fewestWatchers_154 : decode cX8_fewestWatchers 154 = .ok (.iload 6, 2) := by decide +kernel
theorem dX8_fewestWatchers_156 : decode cX8_fewestWatchers 156 = .ok (.istore 5, 2) := by decide +kernel
theorem dX8_fewestWatchers_158 : decode cX8_fewestWatchers 158 = .ok (.iinc 6 1, 3) := by decide +kernel
theorem dX8_fewestWatchers_161 : decode cX8_fewestWatchers 161 = .ok (.goto (-61), 3) := by decide +kernel
theorem dX8_fewestWatchers_164 : decode cX8_fewestWatchers 164 = .ok (.iload 5, 2) := by decide +kernel
theorem dX8_fewestWatchers_166 : decode cX8_fewestWatchers 166 = .ok (.ireturn, 1) := by decide +kernel
def f_X8_fewestWatchers_158 (K100 : Int32 → Int32 → Int32 → Int32 → Hp → Option (Int32 × Hp)) (a1 : Nat) (x3 : Int32) (x4 : Int32) (x5 : Int32) (x6 : Int32) (S : Hp) : Option (Int32 × Hp) :=
  le1 (x6 + (1 : Int32)) (fun v1 => K100 x3 x4 x5 v1 S)
set_option maxHeartbeats 4000000 in
set_option maxRecDepth 100000 in
theorem w_X8_fewestWatchers_158 {p : Program} {l : Launch} {e : Env} {s : State} {m : MethodId} {args : Array Value} {below : List Frame} {meth : Method} {c : Code} {E : Ev} {S0 : Hp} {r : (Int32 × Hp)} (C : ho_I p s m args meth c RX8 cX8_fewestWatchers 8 (some .int)) (K100 : Int32 → Int32 → Int32 → Int32 → Hp → Option (Int32 × Hp)) (a1 : Nat) (ha1 : a1 ∈ yH.1 ∧ yH.2.1 a1 = (1, 9)) (hK100 : ∀ (y3 : Int32) (y4 : Int32) (y5 : Int32) (y6 : Int32) (S : Hp), K100 y3 y4 y5 y6 S = some r → ho_G p l e s m args below meth c yH E S0 4 8 (some (.int r.1), r.2) 100 [(0, .ref (E.2.1 50)), (3, .int y3), (4, .int y4), (5, .int y5), (6, .int y6)] [] S) :
    ∀ (x3 : Int32) (x4 : Int32) (x5 : Int32) (x6 : Int32) (S : Hp), f_X8_fewestWatchers_158 K100 a1 x3 x4 x5 x6 S = some r → ho_G p l e s m args below meth c yH E S0 4 8 (some (.int r.1), r.2) 158 [(0, .ref (E.2.1 50)), (3, .int x3), (4, .int x4), (5, .int x5), (6, .int x6)] [] S := by
  intro x3 x4 x5 x6 S h H locs ls hR hl
  unfold f_X8_fewestWatchers_158 at h
  obtain ⟨v1, e1, h⟩ := le1_ok h
  refine lv_iinc (v := v1) (lv' := [(6, .int v1), (0, .ref (E.2.1 50)), (3, .int x3), (4, .int x4), (5, .int x5)]) C.1 C.2.1 dX8_fewestWatchers_158 hl (k := 4) rfl (by rw [e1]; rfl) (by decide) rfl (fun ls hl => ?_)
  refine lv_goto (tgt := 100) C.1 C.2.1 dX8_fewestWatchers_161 (by decide) ?_
  exact hK100 x3 x4 x5 v1 S h _ _ _ hR (lv_sub hl [1, 2, 3, 4, 0] rfl)
def f_X8_fewestWatchers_132 (K100 : Int32 → Int32 → Int32 → Int32 → Hp → Option (Int32 × Hp)) (a1 : Nat) (x3 : Int32) (x4 : Int32) (x5 : Int32) (x6 : Int32) (z0 : Int32) (S : Hp) : Option (Int32 × Hp) :=
  if z0 = 0 then f_X8_fewestWatchers_158 K100 a1 x3 x4 x5 x6 S else ob2 (f_X8_seenByAny x6 S) (fun r1 S1 => if r1 = (((1 : Int32) <<< (x4 &&& 31)) - (1 : Int32)) then f_X8_fewestWatchers_158 K100 a1 x3 x4 x6 x6 S1 else f_X8_fewestWatchers_158 K100 a1 x3 x4 x5 x6 S1)
set_option maxHeartbeats 4000000 in
set_option maxRecDepth 100000 in
theorem w_X8_fewestWatchers_132 {p : Program} {l : Launch} {e : Env} {s : State} {m : MethodId} {args : Array Value} {below : List Frame} {meth : Method} {c : Code} {E : Ev} {S0 : Hp} {r : (Int32 × Hp)} (C : ho_I p s m args meth c RX8 cX8_fewestWatchers 8 (some .int)) (K100 : Int32 → Int32 → Int32 → Int32 → Hp → Option (Int32 × Hp)) (a1 : Nat) (ha1 : a1 ∈ yH.1 ∧ yH.2.1 a1 = (1, 9)) (hK100 : ∀ (y3 : Int32) (y4 : Int32) (y5 : Int32) (y6 : Int32) (S : Hp), K100 y3 y4 y5 y6 S = some r → ho_G p l e s m args below meth c yH E S0 4 8 (some (.int r.1), r.2) 100 [(0, .ref (E.2.1 50)), (3, .int y3), (4, .int y4), (5, .int y5), (6, .int y6)] [] S) :
    ∀ (x3 : Int32) (x4 : Int32) (x5 : Int32) (x6 : Int32) (z0 : Int32) (S : Hp), f_X8_fewestWatchers_132 K100 a1 x3 x4 x5 x6 z0 S = some r → ho_G p l e s m args below meth c yH E S0 4 8 (some (.int r.1), r.2) 132 [(0, .ref (E.2.1 50)), (3, .int x3), (4, .int x4), (5, .int x5), (6, .int x6)] [.int z0] S := by
  intro x3 x4 x5 x6 z0 S h H locs ls hR hl
  unfold f_X8_fewestWatchers_132 at h
  refine lv_istore (lv' := [(7, .int z0), (0, .ref (E.2.1 50)), (3, .int x3), (4, .int x4), (5, .int x5), (6, .int x6)]) C.1 C.2.1 dX8_fewestWatchers_132 hl (by decide) rfl (fun ls hl => ?_)
  refine lv_iload C.1 C.2.1 dX8_fewestWatchers_134 (lv_at hl 0 rfl) ?_
  refine lv_if_eq (tgt := 158) C.1 C.2.1 dX8_fewestWatchers_136 (by decide) (fun hc => ?_) (fun hc => ?_)
  · replace h := if_t h hc
    exact w_X8_fewestWatchers_158 C K100 a1 ha1 hK100 x3 x4 x5 x6 S h _ _ _ hR (lv_sub hl [1, 2, 3, 4, 5] rfl)
  · replace h := if_f h hc
    refine lv_aload_n C.1 C.2.1 dX8_fewestWatchers_139 rfl (lv_at hl 1 rfl) ?_
    refine lv_iload C.1 C.2.1 dX8_fewestWatchers_140 (lv_at hl 5 rfl) ?_
    obtain ⟨r1, S1, h1, h⟩ := ob2_ok h
    refine hr_Vi (v := r1) (S' := S1) (As := [.int x6]) (rest := []) C cf8 (c_X8_seenByAny l E x6 _ _ h1) yv_X8_seenByAny lk_RX8_176 rfl aH_50 rfl rfl hl.1 (Nat.le_of_ble_eq_true rfl) (by decide) (by decide) hR (ho_A hR) dX8_fewestWatchers_142 (fun H locs hR => ?_)
    refine lv_iconst (v := (1 : Int32)) C.1 C.2.1 dX8_fewestWatchers_145 (by decide) ?_
    refine lv_iload C.1 C.2.1 dX8_fewestWatchers_146 (lv_at hl 3 rfl) ?_
    refine lv_ishl C.1 C.2.1 dX8_fewestWatchers_148 ?_
    refine lv_iconst (v := (1 : Int32)) C.1 C.2.1 dX8_fewestWatchers_149 (by decide) ?_
    refine lv_isub C.1 C.2.1 dX8_fewestWatchers_150 ?_
    refine lv_icmp_ne (tgt := 158) C.1 C.2.1 dX8_fewestWatchers_151 (by decide) (fun hc => ?_) (fun hc => ?_)
    · replace h := if_f h hc
      exact w_X8_fewestWatchers_158 C K100 a1 ha1 hK100 x3 x4 x5 x6 S1 h _ _ _ hR (lv_sub hl [1, 2, 3, 4, 5] rfl)
    · replace h := if_t h hc
      refine lv_iload C.1 C.2.1 dX8_fewestWatchers_154 (lv_at hl 5 rfl) ?_
      refine lv_istore (lv' := [(5, .int x6), (7, .int z0), (0, .ref (E.2.1 50)), (3, .int x3), (4, .int x4), (6, .int x6)]) C.1 C.2.1 dX8_fewestWatchers_156 hl (by decide) rfl (fun ls hl => ?_)
      exact w_X8_fewestWatchers_158 C K100 a1 ha1 hK100 x3 x4 x6 x6 S1 h _ _ _ hR (lv_sub hl [2, 3, 4, 0, 5] rfl)
def f_X8_fewestWatchers_127 (K100 : Int32 → Int32 → Int32 → Int32 → Hp → Option (Int32 × Hp)) (a1 : Nat) (x3 : Int32) (x4 : Int32) (x5 : Int32) (x6 : Int32) (S : Hp) : Option (Int32 × Hp) :=
  f_X8_fewestWatchers_132 K100 a1 x3 x4 x5 x6 (1 : Int32) S
set_option maxHeartbeats 4000000 in
set_option maxRecDepth 100000 in
theorem w_X8_fewestWatchers_127 {p : Program} {l : Launch} {e : Env} {s : State} {m : MethodId} {args : Array Value} {below : List Frame} {meth : Method} {c : Code} {E : Ev} {S0 : Hp} {r : (Int32 × Hp)} (C : ho_I p s m args meth c RX8 cX8_fewestWatchers 8 (some .int)) (K100 : Int32 → Int32 → Int32 → Int32 → Hp → Option (Int32 × Hp)) (a1 : Nat) (ha1 : a1 ∈ yH.1 ∧ yH.2.1 a1 = (1, 9)) (hK100 : ∀ (y3 : Int32) (y4 : Int32) (y5 : Int32) (y6 : Int32) (S : Hp), K100 y3 y4 y5 y6 S = some r → ho_G p l e s m args below meth c yH E S0 4 8 (some (.int r.1), r.2) 100 [(0, .ref (E.2.1 50)), (3, .int y3), (4, .int y4), (5, .int y5), (6, .int y6)] [] S) :
    ∀ (x3 : Int32) (x4 : Int32) (x5 : Int32) (x6 : Int32) (S : Hp), f_X8_fewestWatchers_127 K100 a1 x3 x4 x5 x6 S = some r → ho_G p l e s m args below meth c yH E S0 4 8 (some (.int r.1), r.2) 127 [(0, .ref (E.2.1 50)), (3, .int x3), (4, .int x4), (5, .int x5), (6, .int x6)] [] S := by
  intro x3 x4 x5 x6 S h H locs ls hR hl
  unfold f_X8_fewestWatchers_127 at h
  refine lv_iconst (v := (1 : Int32)) C.1 C.2.1 dX8_fewestWatchers_127 (by decide) ?_
  refine lv_goto (tgt := 132) C.1 C.2.1 dX8_fewestWatchers_128 (by decide) ?_
  exact w_X8_fewestWatchers_132 C K100 a1 ha1 hK100 x3 x4 x5 x6 (1 : Int32) S h _ _ _ hR (lv_sub hl [0, 1, 2, 3, 4] rfl)
def f_X8_fewestWatchers_100 (a1 : Nat) : Nat → Int32 → Int32 → Int32 → Int32 → Hp → Option (Int32 × Hp)
  | 0, _, _, _, _, _ => none
  | k + 1, x3, x4, x5, x6, S => if ((1 : Int32) <<< (x3 &&& 31)) ≤ x6 then some (x5, S) else if x5 = (-1 : Int32) then f_X8_fewestWatchers_127 (f_X8_fewestWatchers_100 a1 k) a1 x3 x4 x5 x6 S else ob2 (f_J6_bitCount_0f7a4 x6 S) (fun r1 S1 => ob2 (f_J6_bitCount_0f7a4 x5 S1) (fun r2 S2 => if r2 ≤ r1 then f_X8_fewestWatchers_132 (f_X8_fewestWatchers_100 a1 k) a1 x3 x4 x5 x6 (0 : Int32) S2 else f_X8_fewestWatchers_127 (f_X8_fewestWatchers_100 a1 k) a1 x3 x4 x5 x6 S2))
set_option maxHeartbeats 4000000 in
set_option maxRecDepth 100000 in
theorem w_X8_fewestWatchers_100 {p : Program} {l : Launch} {e : Env} {s : State} {m : MethodId} {args : Array Value} {below : List Frame} {meth : Method} {c : Code} {E : Ev} {S0 : Hp} {r : (Int32 × Hp)} (C : ho_I p s m args meth c RX8 cX8_fewestWatchers 8 (some .int)) (a1 : Nat) (ha1 : a1 ∈ yH.1 ∧ yH.2.1 a1 = (1, 9)) :
    ∀ (k : Nat) (x3 : Int32) (x4 : Int32) (x5 : Int32) (x6 : Int32) (S : Hp), f_X8_fewestWatchers_100 a1 k x3 x4 x5 x6 S = some r → ho_G p l e s m args below meth c yH E S0 4 8 (some (.int r.1), r.2) 100 [(0, .ref (E.2.1 50)), (3, .int x3), (4, .int x4), (5, .int x5), (6, .int x6)] [] S := by
  intro k
  induction k with
  | zero =>
    intro x3 x4 x5 x6 S h
    exact absurd (show (none : Option (Int32 × Hp)) = some r from h) (by simp)
  | succ k ih =>
    intro x3 x4 x5 x6 S h H locs ls hR hl
    rw [f_X8_fewestWatchers_100] at h
    refine lv_iload C.1 C.2.1 dX8_fewestWatchers_100 (lv_at hl 4 rfl) ?_
    refine lv_iconst (v := (1 : Int32)) C.1 C.2.1 dX8_fewestWatchers_102 (by decide) ?_
    refine lv_iload_n C.1 C.2.1 dX8_fewestWatchers_103 rfl (lv_at hl 1 rfl) ?_
    refine lv_ishl C.1 C.2.1 dX8_fewestWatchers_104 ?_
    refine lv_icmp_ge (tgt := 164) C.1 C.2.1 dX8_fewestWatchers_105 (by decide) (fun hc => ?_) (fun hc => ?_)
    · replace h := if_t h hc
      refine lv_iload C.1 C.2.1 dX8_fewestWatchers_164 (lv_at hl 3 rfl) ?_
      exact ho_iret C hR h dX8_fewestWatchers_166
    · replace h := if_f h hc
      refine lv_iload C.1 C.2.1 dX8_fewestWatchers_108 (lv_at hl 3 rfl) ?_
      refine lv_iconst (v := (-1 : Int32)) C.1 C.2.1 dX8_fewestWatchers_110 (by decide) ?_
      refine lv_icmp_eq (tgt := 127) C.1 C.2.1 dX8_fewestWatchers_111 (by decide) (fun hc => ?_) (fun hc => ?_)
      · replace h := if_t h hc
        exact w_X8_fewestWatchers_127 C (f_X8_fewestWatchers_100 a1 k) a1 ha1 ih x3 x4 x5 x6 S h _ _ _ hR (lv_sub hl [0, 1, 2, 3, 4] rfl)
      · replace h := if_f h hc
        refine lv_iload C.1 C.2.1 dX8_fewestWatchers_114 (lv_at hl 4 rfl) ?_
        obtain ⟨r1, S1, h1, h⟩ := ob2_ok h
        refine hr_Si (v := r1) (S' := S1) (As := [.int x6]) (rest := []) C (c_J6_bitCount_0f7a4 l E x6 _ _ h1) ys_J6_bitCount_0f7a4 lk_RX8_136 rfl rfl hl.1 (Nat.le_of_ble_eq_true rfl) (by decide) (by decide) hR (ho_A hR) dX8_fewestWatchers_116 (fun H locs hR => ?_)
        refine lv_iload C.1 C.2.1 dX8_fewestWatchers_119 (lv_at hl 3 rfl) ?_
        obtain ⟨r2, S2, h2, h⟩ := ob2_ok h
        refine hr_Si (v := r2) (S' := S2) (As := [.int x5]) (rest := [.int r1]) C (c_J6_bitCount_0f7a4 l E x5 _ _ h2) ys_J6_bitCount_0f7a4 lk_RX8_136 rfl rfl hl.1 (Nat.le_of_ble_eq_true rfl) (by decide) (by decide) hR (ho_A hR) dX8_fewestWatchers_121 (fun H locs hR => ?_)
        refine lv_icmp_ge (tgt := 131) C.1 C.2.1 dX8_fewestWatchers_124 (by decide) (fun hc => ?_) (fun hc => ?_)
        · replace h := if_t h hc
          refine lv_iconst (v := (0 : Int32)) C.1 C.2.1 dX8_fewestWatchers_131 (by decide) ?_
          exact w_X8_fewestWatchers_132 C (f_X8_fewestWatchers_100 a1 k) a1 ha1 ih x3 x4 x5 x6 (0 : Int32) S2 h _ _ _ hR (lv_sub hl [0, 1, 2, 3, 4] rfl)
        · replace h := if_f h hc
          exact w_X8_fewestWatchers_127 C (f_X8_fewestWatchers_100 a1 k) a1 ha1 ih x3 x4 x5 x6 S2 h _ _ _ hR (lv_sub hl [0, 1, 2, 3, 4] rfl)
def f_X8_fewestWatchers_82 (K24 : Int32 → Int32 → Int32 → Int32 → Hp → Option (Int32 × Hp)) (K41 : Int32 → Int32 → Int32 → Int32 → Int32 → Hp → Option (Int32 × Hp)) (a1 : Nat) (x2 : Int32) (x3 : Int32) (x4 : Int32) (x5 : Int32) (x6 : Int32) (S : Hp) : Option (Int32 × Hp) :=
  le1 (x6 + (1 : Int32)) (fun v1 => K41 x2 x3 x4 x5 v1 S)
set_option maxHeartbeats 4000000 in
set_option maxRecDepth 100000 in
theorem w_X8_fewestWatchers_82 {p : Program} {l : Launch} {e : Env} {s : State} {m : MethodId} {args : Array Value} {below : List Frame} {meth : Method} {c : Code} {E : Ev} {S0 : Hp} {r : (Int32 × Hp)} (C : ho_I p s m args meth c RX8 cX8_fewestWatchers 8 (some .int)) (K24 : Int32 → Int32 → Int32 → Int32 → Hp → Option (Int32 × Hp)) (K41 : Int32 → Int32 → Int32 → Int32 → Int32 → Hp → Option (Int32 × Hp)) (a1 : Nat) (ha1 : a1 ∈ yH.1 ∧ yH.2.1 a1 = (1, 9)) (hK24 : ∀ (y2 : Int32) (y3 : Int32) (y4 : Int32) (y5 : Int32) (S : Hp), K24 y2 y3 y4 y5 S = some r → ho_G p l e s m args below meth c yH E S0 4 8 (some (.int r.1), r.2) 24 [(0, .ref (E.2.1 50)), (1, .ref (E.2.1 a1)), (2, .int y2), (3, .int y3), (4, .int y4), (5, .int y5)] [] S) (hK41 : ∀ (y2 : Int32) (y3 : Int32) (y4 : Int32) (y5 : Int32) (y6 : Int32) (S : Hp), K41 y2 y3 y4 y5 y6 S = some r → ho_G p l e s m args below meth c yH E S0 4 8 (some (.int r.1), r.2) 41 [(0, .ref (E.2.1 50)), (1, .ref (E.2.1 a1)), (2, .int y2), (3, .int y3), (4, .int y4), (5, .int y5), (6, .int y6)] [] S) :
    ∀ (x2 : Int32) (x3 : Int32) (x4 : Int32) (x5 : Int32) (x6 : Int32) (S : Hp), f_X8_fewestWatchers_82 K24 K41 a1 x2 x3 x4 x5 x6 S = some r → ho_G p l e s m args below meth c yH E S0 4 8 (some (.int r.1), r.2) 82 [(0, .ref (E.2.1 50)), (1, .ref (E.2.1 a1)), (2, .int x2), (3, .int x3), (4, .int x4), (5, .int x5), (6, .int x6)] [] S := by
  intro x2 x3 x4 x5 x6 S h H locs ls hR hl
  unfold f_X8_fewestWatchers_82 at h
  obtain ⟨v1, e1, h⟩ := le1_ok h
  refine lv_iinc (v := v1) (lv' := [(6, .int v1), (0, .ref (E.2.1 50)), (1, .ref (E.2.1 a1)), (2, .int x2), (3, .int x3), (4, .int x4), (5, .int x5)]) C.1 C.2.1 dX8_fewestWatchers_82 hl (k := 6) rfl (by rw [e1]; rfl) (by decide) rfl (fun ls hl => ?_)
  refine lv_goto (tgt := 41) C.1 C.2.1 dX8_fewestWatchers_85 (by decide) ?_
  exact hK41 x2 x3 x4 x5 v1 S h _ _ _ hR (lv_sub hl [1, 2, 3, 4, 5, 6, 0] rfl)
def f_X8_fewestWatchers_41 (K24 : Int32 → Int32 → Int32 → Int32 → Hp → Option (Int32 × Hp)) (a1 : Nat) : Nat → Int32 → Int32 → Int32 → Int32 → Int32 → Hp → Option (Int32 × Hp)
  | 0, _, _, _, _, _, _ => none
  | k + 1, x2, x3, x4, x5, x6, S => if x4 ≤ x6 then le1 (x5 + (1 : Int32)) (fun v1 => K24 x2 x3 x4 v1 S) else ldI S (a1 + 4) 5 x5 (fun v2 => ob2 (f_X8_glimpse a1 x6 x5 v2 S) (fun r3 S3 => if r3 < x2 then f_X8_fewestWatchers_82 K24 (f_X8_fewestWatchers_41 K24 a1 k) a1 x2 x3 x4 x5 x6 S3 else ldI S3 54 5 x5 (fun v4 => stI S3 54 5 x5 (v4 ||| ((1 : Int32) <<< (x6 &&& 31))) (fun S5 => f_X8_fewestWatchers_82 K24 (f_X8_fewestWatchers_41 K24 a1 k) a1 x2 x3 x4 x5 x6 S5))))
set_option maxHeartbeats 4000000 in
set_option maxRecDepth 100000 in
theorem w_X8_fewestWatchers_41 {p : Program} {l : Launch} {e : Env} {s : State} {m : MethodId} {args : Array Value} {below : List Frame} {meth : Method} {c : Code} {E : Ev} {S0 : Hp} {r : (Int32 × Hp)} (C : ho_I p s m args meth c RX8 cX8_fewestWatchers 8 (some .int)) (K24 : Int32 → Int32 → Int32 → Int32 → Hp → Option (Int32 × Hp)) (a1 : Nat) (ha1 : a1 ∈ yH.1 ∧ yH.2.1 a1 = (1, 9)) (hK24 : ∀ (y2 : Int32) (y3 : Int32) (y4 : Int32) (y5 : Int32) (S : Hp), K24 y2 y3 y4 y5 S = some r → ho_G p l e s m args below meth c yH E S0 4 8 (some (.int r.1), r.2) 24 [(0, .ref (E.2.1 50)), (1, .ref (E.2.1 a1)), (2, .int y2), (3, .int y3), (4, .int y4), (5, .int y5)] [] S) :
    ∀ (k : Nat) (x2 : Int32) (x3 : Int32) (x4 : Int32) (x5 : Int32) (x6 : Int32) (S : Hp), f_X8_fewestWatchers_41 K24 a1 k x2 x3 x4 x5 x6 S = some r → ho_G p l e s m args below meth c yH E S0 4 8 (some (.int r.1), r.2) 41 [(0, .ref (E.2.1 50)), (1, .ref (E.2.1 a1)), (2, .int x2), (3, .int x3), (4, .int x4), (5, .int x5), (6, .int x6)] [] S := by
  intro k
  induction k with
  | zero =>
    intro x2 x3 x4 x5 x6 S h
    exact absurd (show (none : Option (Int32 × Hp)) = some r from h) (by simp)
  | succ k ih =>
    intro x2 x3 x4 x5 x6 S h H locs ls hR hl
    rw [f_X8_fewestWatchers_41] at h
    refine lv_iload C.1 C.2.1 dX8_fewestWatchers_41 (lv_at hl 6 rfl) ?_
    refine lv_iload C.1 C.2.1 dX8_fewestWatchers_43 (lv_at hl 4 rfl) ?_
    refine lv_icmp_ge (tgt := 88) C.1 C.2.1 dX8_fewestWatchers_45 (by decide) (fun hc => ?_) (fun hc => ?_)
    · replace h := if_t h hc
      obtain ⟨v1, e1, h⟩ := le1_ok h
      refine lv_iinc (v := v1) (lv' := [(5, .int v1), (0, .ref (E.2.1 50)), (1, .ref (E.2.1 a1)), (2, .int x2), (3, .int x3), (4, .int x4), (6, .int x6)]) C.1 C.2.1 dX8_fewestWatchers_88 hl (k := 5) rfl (by rw [e1]; rfl) (by decide) rfl (fun ls hl => ?_)
      refine lv_goto (tgt := 24) C.1 C.2.1 dX8_fewestWatchers_91 (by decide) ?_
      exact hK24 x2 x3 x4 v1 S h _ _ _ hR (lv_sub hl [1, 2, 3, 4, 5, 0] rfl)
    · replace h := if_f h hc
      refine lv_aload_n C.1 C.2.1 dX8_fewestWatchers_48 rfl (lv_at hl 0 rfl) ?_
      refine lv_aload_n C.1 C.2.1 dX8_fewestWatchers_49 rfl (lv_at hl 1 rfl) ?_
      refine lv_iload C.1 C.2.1 dX8_fewestWatchers_50 (lv_at hl 6 rfl) ?_
      refine lv_iload C.1 C.2.1 dX8_fewestWatchers_52 (lv_at hl 5 rfl) ?_
      refine lv_aload_n C.1 C.2.1 dX8_fewestWatchers_54 rfl (lv_at hl 1 rfl) ?_
      refine ho_getR (a' := (a1 + 4)) C cf9 fH_RX8_78 hR ha1 (pH_9_6 ha1.2) dX8_fewestWatchers_55 ?_
      refine lv_iload C.1 C.2.1 dX8_fewestWatchers_58 (lv_at hl 5 rfl) ?_
      obtain ⟨v2, e2, hi2, h⟩ := ldI_ok h
      refine hr_ild C hR (rH_9_4 ha1) hi2 e2 dX8_fewestWatchers_60 ?_
      obtain ⟨r3, S3, h3, h⟩ := ob2_ok h
      refine hr_Vi (v := r3) (S' := S3) (As := [.ref (E.2.1 a1), .int x6, .int x5, .int v2]) (rest := []) C cf8 (c_X8_glimpse l E a1 x6 x5 v2 ha1 _ _ h3) yv_X8_glimpse lk_RX8_81 rfl aH_50 rfl rfl hl.1 (Nat.le_of_ble_eq_true rfl) (by decide) (by decide) hR (ho_A hR) dX8_fewestWatchers_61 (fun H locs hR => ?_)
      refine lv_iload_n C.1 C.2.1 dX8_fewestWatchers_64 rfl (lv_at hl 2 rfl) ?_
      refine lv_icmp_lt (tgt := 82) C.1 C.2.1 dX8_fewestWatchers_65 (by decide) (fun hc => ?_) (fun hc => ?_)
      · replace h := if_t h hc
        exact w_X8_fewestWatchers_82 C K24 (f_X8_fewestWatchers_41 K24 a1 k) a1 ha1 hK24 ih x2 x3 x4 x5 x6 S3 h _ _ _ hR (lv_sub hl [0, 1, 2, 3, 4, 5, 6] rfl)
      · replace h := if_f h hc
        refine lv_aload_n C.1 C.2.1 dX8_fewestWatchers_68 rfl (lv_at hl 0 rfl) ?_
        refine ho_getR (a' := 54) C cf8 fH_RX8_33 hR aH_50 rfl dX8_fewestWatchers_69 ?_
        refine lv_iload C.1 C.2.1 dX8_fewestWatchers_72 (lv_at hl 5 rfl) ?_
        refine lv_dup2_11 C.1 C.2.1 dX8_fewestWatchers_74 rfl rfl ?_
        obtain ⟨v4, e4, hi4, h⟩ := ldI_ok h
        refine hr_ild C hR aH_54 hi4 e4 dX8_fewestWatchers_75 ?_
        refine lv_iconst (v := (1 : Int32)) C.1 C.2.1 dX8_fewestWatchers_76 (by decide) ?_
        refine lv_iload C.1 C.2.1 dX8_fewestWatchers_77 (lv_at hl 6 rfl) ?_
        refine lv_ishl C.1 C.2.1 dX8_fewestWatchers_79 ?_
        refine lv_ior C.1 C.2.1 dX8_fewestWatchers_80 ?_
        obtain ⟨S5, e5, hi5, h⟩ := stI_ok h
        refine hr_ist C hR aH_54 hi5 e5 dX8_fewestWatchers_81 (fun H locs hR => ?_)
        exact w_X8_fewestWatchers_82 C K24 (f_X8_fewestWatchers_41 K24 a1 k) a1 ha1 hK24 ih x2 x3 x4 x5 x6 S5 h _ _ _ hR (lv_sub hl [0, 1, 2, 3, 4, 5, 6] rfl)
def f_X8_fewestWatchers_24 (a1 : Nat) : Nat → Int32 → Int32 → Int32 → Int32 → Hp → Option (Int32 × Hp)
  | 0, _, _, _, _, _ => none
  | k + 1, x2, x3, x4, x5, S => if x3 ≤ x5 then f_X8_fewestWatchers_100 a1 5000 x3 x4 (-1 : Int32) (0 : Int32) S else stI S 54 5 x5 (0 : Int32) (fun S1 => f_X8_fewestWatchers_41 (f_X8_fewestWatchers_24 a1 k) a1 5000 x2 x3 x4 x5 (0 : Int32) S1)
set_option maxHeartbeats 4000000 in
set_option maxRecDepth 100000 in
theorem w_X8_fewestWatchers_24 {p : Program} {l : Launch} {e : Env} {s : State} {m : MethodId} {args : Array Value} {below : List Frame} {meth : Method} {c : Code} {E : Ev} {S0 : Hp} {r : (Int32 × Hp)} (C : ho_I p s m args meth c RX8 cX8_fewestWatchers 8 (some .int)) (a1 : Nat) (ha1 : a1 ∈ yH.1 ∧ yH.2.1 a1 = (1, 9)) :
    ∀ (k : Nat) (x2 : Int32) (x3 : Int32) (x4 : Int32) (x5 : Int32) (S : Hp), f_X8_fewestWatchers_24 a1 k x2 x3 x4 x5 S = some r → ho_G p l e s m args below meth c yH E S0 4 8 (some (.int r.1), r.2) 24 [(0, .ref (E.2.1 50)), (1, .ref (E.2.1 a1)), (2, .int x2), (3, .int x3), (4, .int x4), (5, .int x5)] [] S := by
  intro k
  induction k with
  | zero =>
    intro x2 x3 x4 x5 S h
    exact absurd (show (none : Option (Int32 × Hp)) = some r from h) (by simp)
  | succ k ih =>
    intro x2 x3 x4 x5 S h H locs ls hR hl
    rw [f_X8_fewestWatchers_24] at h
    refine lv_iload C.1 C.2.1 dX8_fewestWatchers_24 (lv_at hl 5 rfl) ?_
    refine lv_iload_n C.1 C.2.1 dX8_fewestWatchers_26 rfl (lv_at hl 3 rfl) ?_
    refine lv_icmp_ge (tgt := 94) C.1 C.2.1 dX8_fewestWatchers_27 (by decide) (fun hc => ?_) (fun hc => ?_)
    · replace h := if_t h hc
      refine lv_iconst (v := (-1 : Int32)) C.1 C.2.1 dX8_fewestWatchers_94 (by decide) ?_
      refine lv_istore (lv' := [(5, .int (-1 : Int32)), (0, .ref (E.2.1 50)), (1, .ref (E.2.1 a1)), (2, .int x2), (3, .int x3), (4, .int x4)]) C.1 C.2.1 dX8_fewestWatchers_95 hl (by decide) rfl (fun ls hl => ?_)
      refine lv_iconst (v := (0 : Int32)) C.1 C.2.1 dX8_fewestWatchers_97 (by decide) ?_
      refine lv_istore (lv' := [(6, .int (0 : Int32)), (5, .int (-1 : Int32)), (0, .ref (E.2.1 50)), (1, .ref (E.2.1 a1)), (2, .int x2), (3, .int x3), (4, .int x4)]) C.1 C.2.1 dX8_fewestWatchers_98 hl (by decide) rfl (fun ls hl => ?_)
      exact w_X8_fewestWatchers_100 C a1 ha1 5000 x3 x4 (-1 : Int32) (0 : Int32) S h _ _ _ hR (lv_sub hl [2, 5, 6, 1, 0] rfl)
    · replace h := if_f h hc
      refine lv_aload_n C.1 C.2.1 dX8_fewestWatchers_30 rfl (lv_at hl 0 rfl) ?_
      refine ho_getR (a' := 54) C cf8 fH_RX8_33 hR aH_50 rfl dX8_fewestWatchers_31 ?_
      refine lv_iload C.1 C.2.1 dX8_fewestWatchers_34 (lv_at hl 5 rfl) ?_
      refine lv_iconst (v := (0 : Int32)) C.1 C.2.1 dX8_fewestWatchers_36 (by decide) ?_
      obtain ⟨S1, e1, hi1, h⟩ := stI_ok h
      refine hr_ist C hR aH_54 hi1 e1 dX8_fewestWatchers_37 (fun H locs hR => ?_)
      refine lv_iconst (v := (0 : Int32)) C.1 C.2.1 dX8_fewestWatchers_38 (by decide) ?_
      refine lv_istore (lv' := [(6, .int (0 : Int32)), (0, .ref (E.2.1 50)), (1, .ref (E.2.1 a1)), (2, .int x2), (3, .int x3), (4, .int x4), (5, .int x5)]) C.1 C.2.1 dX8_fewestWatchers_39 hl (by decide) rfl (fun ls hl => ?_)
      exact w_X8_fewestWatchers_41 C (f_X8_fewestWatchers_24 a1 k) a1 ha1 ih 5000 x2 x3 x4 x5 (0 : Int32) S1 h _ _ _ hR (lv_sub hl [1, 2, 3, 4, 5, 6, 0] rfl)
def f_X8_fewestWatchers (a1 : Nat) (x2 : Int32) (S : Hp) : Option (Int32 × Hp) :=
  ldP yH S 50 0 2 (fun p1 => ldI S (p1 + 1) 3 (2 : Int32) (fun v2 => ldP yH S 50 0 2 (fun p3 => ldI S (p3 + 1) 3 (1 : Int32) (fun v4 => f_X8_fewestWatchers_24 a1 5000 x2 v2 v4 (0 : Int32) S))))
set_option maxHeartbeats 4000000 in
set_option maxRecDepth 100000 in
theorem c_X8_fewestWatchers (l : Launch) (E : Ev) (a1 : Nat) (x2 : Int32) (ha1 : a1 ∈ yH.1 ∧ yH.2.1 a1 = (1, 9)) (S : Hp) (r : (Int32 × Hp)) (h : f_X8_fewestWatchers a1 x2 S = some r) : ho_M l yH E yX8_fewestWatchers cX8_fewestWatchers 8 (some .int) 4 [.ref (E.2.1 50), .ref (E.2.1 a1), .int x2] S (some (.int r.1), r.2) := by
  refine ho_in (by decide) (Nat.le_of_ble_eq_true rfl) ?_
  intro p e s m args below meth c C hR ls hl
  have C : ho_I p s m args meth c RX8 cX8_fewestWatchers 8 (some .int) := C
  have hl : lv_has ls 8 [(0, .ref (E.2.1 50)), (1, .ref (E.2.1 a1)), (2, .int x2)] := hl
  unfold f_X8_fewestWatchers at h
  refine lv_aload_n C.1 C.2.1 dX8_fewestWatchers_0 rfl (lv_at hl 0 rfl) ?_
  obtain ⟨p1, e1, hp1, h⟩ := ldP_ok h
  refine hr_getP C cf8 fH_RX8_36 hR aH_50 e1 dX8_fewestWatchers_1 ?_
  refine ho_getR (a' := (p1 + 1)) C cf2 fH_RX8_75 hR hp1 (pH_2_5 hp1.2) dX8_fewestWatchers_4 ?_
  refine lv_iconst (v := (2 : Int32)) C.1 C.2.1 dX8_fewestWatchers_7 (by decide) ?_
  obtain ⟨v2, e2, hi2, h⟩ := ldI_ok h
  refine hr_ild C hR (rH_2_1 hp1) hi2 e2 dX8_fewestWatchers_8 ?_
  refine lv_istore_n (lv' := [(3, .int v2), (0, .ref (E.2.1 50)), (1, .ref (E.2.1 a1)), (2, .int x2)]) C.1 C.2.1 dX8_fewestWatchers_9 rfl hl (by decide) rfl (fun ls hl => ?_)
  refine lv_aload_n C.1 C.2.1 dX8_fewestWatchers_10 rfl (lv_at hl 1 rfl) ?_
  obtain ⟨p3, e3, hp3, h⟩ := ldP_ok h
  refine hr_getP C cf8 fH_RX8_36 hR aH_50 e3 dX8_fewestWatchers_11 ?_
  refine ho_getR (a' := (p3 + 1)) C cf2 fH_RX8_75 hR hp3 (pH_2_5 hp3.2) dX8_fewestWatchers_14 ?_
  refine lv_iconst (v := (1 : Int32)) C.1 C.2.1 dX8_fewestWatchers_17 (by decide) ?_
  obtain ⟨v4, e4, hi4, h⟩ := ldI_ok h
  refine hr_ild C hR (rH_2_1 hp3) hi4 e4 dX8_fewestWatchers_18 ?_
  refine lv_istore (lv' := [(4, .int v4), (3, .int v2), (0, .ref (E.2.1 50)), (1, .ref (E.2.1 a1)), (2, .int x2)]) C.1 C.2.1 dX8_fewestWatchers_19 hl (by decide) rfl (fun ls hl => ?_)
  refine lv_iconst (v := (0 : Int32)) C.1 C.2.1 dX8_fewestWatchers_21 (by decide) ?_
  refine lv_istore (lv' := [(5, .int (0 : Int32)), (4, .int v4), (3, .int v2), (0, .ref (E.2.1 50)), (1, .ref (E.2.1 a1)), (2, .int x2)]) C.1 C.2.1 dX8_fewestWatchers_22 hl (by decide) rfl (fun ls hl => ?_)
  exact w_X8_fewestWatchers_24 C a1 ha1 5000 x2 v2 v4 (0 : Int32) S h _ _ _ hR (lv_sub hl [3, 4, 5, 2, 1, 0] rfl)
theorem dX9_startOf_0 : decode cX9_startOf 0 = .ok (.aload_n 0, 1) := by decide +kernel
theorem dX9_startOf_1 : decode cX9_startOf 1 = .ok (.iconst 0, 1) := by decide +kernel
theorem dX9_startOf_2 : decode cX9_startOf 2 = .ok (.putfield 9, 3) := by decide +kernel
theorem dX9_startOf_5 : decode cX9_startOf 5 = .ok (.aload_n 0, 1) := by decide +kernel
theorem dX9_startOf_6 : decode cX9_startOf 6 = .ok (.aload_n 1, 1) := by decide +kernel
theorem dX9_startOf_7 : decode cX9_startOf 7 = .ok (.getfield 40, 3) := by decide +kernel
theorem dX9_startOf_10 : decode cX9_startOf 10 = .ok (.putfield 15, 3) := by decide +kernel
theorem dX9_startOf_13 : decode cX9_startOf 13 = .ok (.aload_n 0, 1) := by decide +kernel
theorem dX9_startOf_14 : decode cX9_startOf 14 = .ok (.aload_n 1, 1) := by decide +kernel
theorem dX9_startOf_15 : decode cX9_startOf 15 = .ok (.getfield 43, 3) := by decide +kernel
theorem dX9_startOf_18 : decode cX9_startOf 18 = .ok (.putfield 18, 3) := by decide +kernel
theorem dX9_startOf_21 : decode cX9_startOf 21 = .ok (.aload_n 0, 1) := by decide +kernel
theorem dX9_startOf_22 : decode cX9_startOf 22 = .ok (.iconst 0, 1) := by decide +kernel
theorem dX9_startOf_23 : decode cX9_startOf 23 = .ok (.putfield 34, 3) := by decide +kernel
theorem dX9_startOf_26 : decode cX9_startOf 26 = .ok (.iconst 0, 1) := by decide +kernel
theorem dX9_startOf_27 : decode cX9_startOf 27 = .ok (.istore_n 2, 1) := by decide +kernel
theorem dX9_startOf_28 : decode cX9_startOf 28 = .ok (.iload_n 2, 1) := by decide +kernel
theorem dX9_startOf_29 : decode cX9_startOf 29 = .ok (.bipush 6, 2) := by decide +kernel
theorem dX9_startOf_31 : decode cX9_startOf 31 = .ok (.if_icmp .ge 34, 3) := by decide +kernel
theorem dX9_startOf_34 : decode cX9_startOf 34 = .ok (.aload_n 0, 1) := by decide +kernel
theorem dX9_startOf_35 : decode cX9_startOf 35 = .ok (.getfield 21, 3) := by decide +kernel
theorem dX9_startOf_38 : decode cX9_startOf 38 = .ok (.iload_n 2, 1) := by decide +kernel
theorem dX9_startOf_39 : decode cX9_startOf 39 = .ok (.aload_n 1, 1) := by decide +kernel
theorem dX9_startOf_40 : decode cX9_startOf 40 = .ok (.iconst 0, 1) := by decide +kernel
theorem dX9_startOf_41 : decode cX9_startOf 41 = .ok (.iload_n 2, 1) := by decide +kernel
theorem dX9_startOf_42 : decode cX9_startOf 42 = .ok (.invokevirtual 44, 3) := by decide +kernel
theorem dX9_startOf_45 : decode cX9_startOf 45 = .ok (.ifCond .eq 12, 3) := by decide +kernel
theorem dX9_startOf_48 : decode cX9_startOf 48 = .ok (.aload_n 1, 1) := by decide +kernel
theorem dX9_startOf_49 : decode cX9_startOf 49 = .ok (.getfield 48, 3) := by decide +kernel
theorem dX9_startOf_52 : decode cX9_startOf 52 = .ok (.iload_n 2, 1) := by decide +kernel
theorem dX9_startOf_53 : decode cX9_startOf 53 = .ok (.iaload, 1) := by decide +kernel
theorem dX9_startOf_54 : decode cX9_startOf 54 = .ok (.goto 4, 3) := by decide +kernel
theorem dX9_startOf_57 : decode cX9_startOf 57 = .ok (.iconst 0, 1) := by decide +kernel
theorem dX9_startOf_58 : decode cX9_startOf 58 = .ok (.iastore, 1) := by decide +kernel
theorem dX9_startOf_59 : decode cX9_startOf 59 = .ok (.iinc 2 1, 3) := by decide +kernel
theorem dX9_startOf_62 : decode cX9_startOf 62 = .ok (.goto (-34), 3) := by decide +kernel
theorem dX9_startOf_65 : decode cX9_startOf 65 = .ok (.aload_n 0, 1) := by decide +kernel
theorem dX9_startOf_66 : decode cX9_startOf 66 = .ok (.getfield 25, 3) := by decide +kernel
theorem dX9_startOf_69 : decode cX9_startOf 69 = .ok (.iconst 0, 1) := by decide +kernel
theorem dX9_startOf_70 : decode cX9_startOf 70 = .ok (.invokestatic 49, 3) := by decide +kernel
theorem dX9_startOf_73 : decode cX9_startOf 73 = .ok (.aload_n 0, 1) := by decide +kernel
theorem dX9_startOf_74 : decode cX9_startOf 74 = .ok (.getfield 28, 3) := by decide +kernel
theorem dX9_startOf_77 : decode cX9_startOf 77 = .ok (.iconst 0, 1) := by decide +kernel
theorem dX9_startOf_78 : decode cX9_startOf 78 = .ok (.invokestatic 49, 3) := by decide +kernel
theorem dX9_startOf_81 : decode cX9_startOf 81 = .ok (.aload_n 1, 1) := by decide +kernel
theorem dX9_startOf_82 : decode cX9_startOf 82 = .ok (.getfield 55, 3) := by decide +kernel
theorem dX9_startOf_85 : decode cX9_startOf 85 = .ok (.iconst 0, 1) := by decide +kernel
theorem dX9_startOf_86 : decode cX9_startOf 86 = .ok (.aload_n 0, 1) := by decide +kernel
theorem dX9_startOf_87 : decode cX9_startOf 87 = .ok (.getfield 31, 3) := by decide +kernel
theorem dX9_startOf_90 : decode cX9_startOf 90 = .ok (.iconst 0, 1) := by decide +kernel
theorem dX9_startOf_91 : decode cX9_startOf 91 = .ok (.iconst 5, 1) := by decide +kernel
theorem dX9_startOf_92 : decode cX9_startOf 92 = .ok (.invokestatic 56, 3) := by decide +kernel
theorem dX9_startOf_95 : decode cX9_startOf 95 = .ok (.return_, 1) := by decide +kernel
def f_X9_startOf_58 (K28 : Int32 → Hp → Option Hp) (a0 : Nat) (a1 : Nat) (x2 : Int32) (z1 : Int32) (z2 : Int32) (S : Hp) : Option Hp :=
  stI S (a0 + 1) 6 z1 z2 (fun S1 => le1 (x2 + (1 : Int32)) (fun v2 => K28 v2 S1))
set_option maxHeartbeats 4000000 in
set_option maxRecDepth 100000 in
theorem w_X9_startOf_58 {p : Program} {l : Launch} {e : Env} {s : State} {m : MethodId} {args : Array Value} {below : List Frame} {meth : Method} {c : Code} {E : Ev} {S0 : Hp} {r : Hp} (C : ho_I p s m args meth c RX9 cX9_startOf 3 none) (K28 : Int32 → Hp → Option Hp) (a0 : Nat) (a1 : Nat) (ha0 : a0 ∈ yH.1 ∧ yH.2.1 a0 = (1, 9)) (ha1 : a1 ∈ yH.1 ∧ yH.2.1 a1 = (1, 2)) (hK28 : ∀ (y2 : Int32) (S : Hp), K28 y2 S = some r → ho_G p l e s m args below meth c yH E S0 1 3 (none, r) 28 [(0, .ref (E.2.1 a0)), (1, .ref (E.2.1 a1)), (2, .int y2)] [] S) :
    ∀ (x2 : Int32) (z1 : Int32) (z2 : Int32) (S : Hp), f_X9_startOf_58 K28 a0 a1 x2 z1 z2 S = some r → ho_G p l e s m args below meth c yH E S0 1 3 (none, r) 58 [(0, .ref (E.2.1 a0)), (1, .ref (E.2.1 a1)), (2, .int x2)] [.int z2, .int z1, .ref (E.2.1 (a0 + 1))] S := by
  intro x2 z1 z2 S h H locs ls hR hl
  unfold f_X9_startOf_58 at h
  obtain ⟨S1, e1, hi1, h⟩ := stI_ok h
  refine hr_ist C hR (rH_9_1 ha0) hi1 e1 dX9_startOf_58 (fun H locs hR => ?_)
  obtain ⟨v2, e2, h⟩ := le1_ok h
  refine lv_iinc (v := v2) (lv' := [(2, .int v2), (0, .ref (E.2.1 a0)), (1, .ref (E.2.1 a1))]) C.1 C.2.1 dX9_startOf_59 hl (k := 2) rfl (by rw [e2]; rfl) (by decide) rfl (fun ls hl => ?_)
  refine lv_goto (tgt := 28) C.1 C.2.1 dX9_startOf_62 (by decide) ?_
  exact hK28 v2 S1 h _ _ _ hR (lv_sub hl [1, 2, 0] rfl)
def f_X9_startOf_28 (a0 : Nat) (a1 : Nat) : Nat → Int32 → Hp → Option Hp
  | 0, _, _ => none
  | k + 1, x2, S => if (6 : Int32) ≤ x2 then ob (f_J7_fill_53178 (a0 + 2) 6 (0 : Int32) S) (fun S1 => ob (f_J7_fill_53178 (a0 + 3) 6 (0 : Int32) S1) (fun S2 => cpI S2 (a1 + 11) 5 (0 : Int32) (a0 + 4) 5 (0 : Int32) (5 : Int32) (fun S3 => some S3))) else ob2 (f_X2_holds a1 (0 : Int32) x2 S) (fun r4 S4 => if r4 = 0 then f_X9_startOf_58 (f_X9_startOf_28 a0 a1 k) a0 a1 x2 x2 (0 : Int32) S4 else ldI S4 (a1 + 6) 6 x2 (fun v5 => f_X9_startOf_58 (f_X9_startOf_28 a0 a1 k) a0 a1 x2 x2 v5 S4))
set_option maxHeartbeats 4000000 in
set_option maxRecDepth 100000 in
theorem w_X9_startOf_28 {p : Program} {l : Launch} {e : Env} {s : State} {m : MethodId} {args : Array Value} {below : List Frame} {meth : Method} {c : Code} {E : Ev} {S0 : Hp} {r : Hp} (C : ho_I p s m args meth c RX9 cX9_startOf 3 none) (a0 : Nat) (a1 : Nat) (ha0 : a0 ∈ yH.1 ∧ yH.2.1 a0 = (1, 9)) (ha1 : a1 ∈ yH.1 ∧ yH.2.1 a1 = (1, 2)) :
    ∀ (k : Nat) (x2 : Int32) (S : Hp), f_X9_startOf_28 a0 a1 k x2 S = some r → ho_G p l e s m args below meth c yH E S0 1 3 (none, r) 28 [(0, .ref (E.2.1 a0)), (1, .ref (E.2.1 a1)), (2, .int x2)] [] S := by
  intro k
  induction k with
  | zero =>
    intro x2 S h
    exact absurd (show (none : Option Hp) = some r from h) (by simp)
  | succ k ih =>
    intro x2 S h H locs ls hR hl
    rw [f_X9_startOf_28] at h
    refine lv_iload_n C.1 C.2.1 dX9_startOf_28 rfl (lv_at hl 2 rfl) ?_
    refine lv_bipush (v := (6 : Int32)) C.1 C.2.1 dX9_startOf_29 (by decide) ?_
    refine lv_icmp_ge (tgt := 65) C.1 C.2.1 dX9_startOf_31 (by decide) (fun hc => ?_) (fun hc => ?_)
    · replace h := if_t h hc
      refine lv_aload_n C.1 C.2.1 dX9_startOf_65 rfl (lv_at hl 0 rfl) ?_
      refine ho_getR (a' := (a0 + 2)) C cf9 fH_RX9_25 hR ha0 (pH_9_4 ha0.2) dX9_startOf_66 ?_
      refine lv_iconst (v := (0 : Int32)) C.1 C.2.1 dX9_startOf_69 (by decide) ?_
      obtain ⟨S1, h1, h⟩ := ob_ok h
      refine hr_Sv (S' := S1) (As := [.ref (E.2.1 (a0 + 2)), .int (0 : Int32)]) (rest := []) C (c_J7_fill_53178 l E (a0 + 2) 6 (0 : Int32) (rH_9_2 ha0) _ _ h1) ys_J7_fill_53178 lk_RX9_49 rfl rfl hl.1 (Nat.le_of_ble_eq_true rfl) (by decide) (by decide) hR (ho_A hR) dX9_startOf_70 (fun H locs hR => ?_)
      refine lv_aload_n C.1 C.2.1 dX9_startOf_73 rfl (lv_at hl 0 rfl) ?_
      refine ho_getR (a' := (a0 + 3)) C cf9 fH_RX9_28 hR ha0 (pH_9_5 ha0.2) dX9_startOf_74 ?_
      refine lv_iconst (v := (0 : Int32)) C.1 C.2.1 dX9_startOf_77 (by decide) ?_
      obtain ⟨S2, h2, h⟩ := ob_ok h
      refine hr_Sv (S' := S2) (As := [.ref (E.2.1 (a0 + 3)), .int (0 : Int32)]) (rest := []) C (c_J7_fill_53178 l E (a0 + 3) 6 (0 : Int32) (rH_9_3 ha0) _ _ h2) ys_J7_fill_53178 lk_RX9_49 rfl rfl hl.1 (Nat.le_of_ble_eq_true rfl) (by decide) (by decide) hR (ho_A hR) dX9_startOf_78 (fun H locs hR => ?_)
      refine lv_aload_n C.1 C.2.1 dX9_startOf_81 rfl (lv_at hl 1 rfl) ?_
      refine ho_getR (a' := (a1 + 11)) C cf2 fH_RX9_55 hR ha1 (pH_2_12 ha1.2) dX9_startOf_82 ?_
      refine lv_iconst (v := (0 : Int32)) C.1 C.2.1 dX9_startOf_85 (by decide) ?_
      refine lv_aload_n C.1 C.2.1 dX9_startOf_86 rfl (lv_at hl 0 rfl) ?_
      refine ho_getR (a' := (a0 + 4)) C cf9 fH_RX9_31 hR ha0 (pH_9_6 ha0.2) dX9_startOf_87 ?_
      refine lv_iconst (v := (0 : Int32)) C.1 C.2.1 dX9_startOf_90 (by decide) ?_
      refine lv_iconst (v := (5 : Int32)) C.1 C.2.1 dX9_startOf_91 (by decide) ?_
      obtain ⟨S3, e3, hh3, h⟩ := cpI_ok h
      refine hr_cpy C ac_RX9_56 hR (rH_2_11 ha1) (rH_9_4 ha0) hh3 e3 hl.1 (Nat.le_of_ble_eq_true rfl) (by decide) dX9_startOf_92 (fun H locs hR => ?_)
      exact ho_vret C hR h dX9_startOf_95
    · replace h := if_f h hc
      refine lv_aload_n C.1 C.2.1 dX9_startOf_34 rfl (lv_at hl 0 rfl) ?_
      refine ho_getR (a' := (a0 + 1)) C cf9 fH_RX9_21 hR ha0 (pH_9_3 ha0.2) dX9_startOf_35 ?_
      refine lv_iload_n C.1 C.2.1 dX9_startOf_38 rfl (lv_at hl 2 rfl) ?_
      refine lv_aload_n C.1 C.2.1 dX9_startOf_39 rfl (lv_at hl 1 rfl) ?_
      refine lv_iconst (v := (0 : Int32)) C.1 C.2.1 dX9_startOf_40 (by decide) ?_
      refine lv_iload_n C.1 C.2.1 dX9_startOf_41 rfl (lv_at hl 2 rfl) ?_
      obtain ⟨r4, S4, h4, h⟩ := ob2_ok h
      refine hr_Vi (v := r4) (S' := S4) (As := [.int (0 : Int32), .int x2]) (rest := [.int x2, .ref (E.2.1 (a0 + 1))]) C cf2 (c_X2_holds l E a1 (0 : Int32) x2 ha1 _ _ h4) yv_X2_holds lk_RX9_44 rfl ha1 rfl rfl hl.1 (Nat.le_of_ble_eq_true rfl) (by decide) (by decide) hR (ho_A hR) dX9_startOf_42 (fun H locs hR => ?_)
      refine lv_if_eq (tgt := 57) C.1 C.2.1 dX9_startOf_45 (by decide) (fun hc => ?_) (fun hc => ?_)
      · replace h := if_t h hc
        refine lv_iconst (v := (0 : Int32)) C.1 C.2.1 dX9_startOf_57 (by decide) ?_
        exact w_X9_startOf_58 C (f_X9_startOf_28 a0 a1 k) a0 a1 ha0 ha1 ih x2 x2 (0 : Int32) S4 h _ _ _ hR (lv_sub hl [0, 1, 2] rfl)
      · replace h := if_f h hc
        refine lv_aload_n C.1 C.2.1 dX9_startOf_48 rfl (lv_at hl 1 rfl) ?_
        refine ho_getR (a' := (a1 + 6)) C cf2 fH_RX9_48 hR ha1 (pH_2_7 ha1.2) dX9_startOf_49 ?_
        refine lv_iload_n C.1 C.2.1 dX9_startOf_52 rfl (lv_at hl 2 rfl) ?_
        obtain ⟨v5, e5, hi5, h⟩ := ldI_ok h
        refine hr_ild C hR (rH_2_6 ha1) hi5 e5 dX9_startOf_53 ?_
        refine lv_goto (tgt := 58) C.1 C.2.1 dX9_startOf_54 (by decide) ?_
        exact w_X9_startOf_58 C (f_X9_startOf_28 a0 a1 k) a0 a1 ha0 ha1 ih x2 x2 v5 S4 h _ _ _ hR (lv_sub hl [0, 1, 2] rfl)
def f_X9_startOf (a0 : Nat) (a1 : Nat) (S : Hp) : Option Hp :=
  le1 (ho_sI S a0 0 (0 : Int32)) (fun S1 => le1 (ho_sI S1 a0 1 (S1.1 a1 1)) (fun S2 => le1 (ho_sI S2 a0 2 (S2.1 a1 3)) (fun S3 => le1 (ho_sI S3 a0 7 (0 : Int32)) (fun S4 => f_X9_startOf_28 a0 a1 5000 (0 : Int32) S4))))
set_option maxHeartbeats 4000000 in
set_option maxRecDepth 100000 in
theorem c_X9_startOf (l : Launch) (E : Ev) (a0 : Nat) (a1 : Nat) (ha0 : a0 ∈ yH.1 ∧ yH.2.1 a0 = (1, 9)) (ha1 : a1 ∈ yH.1 ∧ yH.2.1 a1 = (1, 2)) (S : Hp) (r : Hp) (h : f_X9_startOf a0 a1 S = some r) : ho_M l yH E yX9_startOf cX9_startOf 3 none 1 [.ref (E.2.1 a0), .ref (E.2.1 a1)] S (none, r) := by
  refine ho_in (by decide) (Nat.le_of_ble_eq_true rfl) ?_
  intro p e s m args below meth c C hR ls hl
  have C : ho_I p s m args meth c RX9 cX9_startOf 3 none := C
  have hl : lv_has ls 3 [(0, .ref (E.2.1 a0)), (1, .ref (E.2.1 a1))] := hl
  unfold f_X9_startOf at h
  refine lv_aload_n C.1 C.2.1 dX9_startOf_0 rfl (lv_at hl 0 rfl) ?_
  refine lv_iconst (v := (0 : Int32)) C.1 C.2.1 dX9_startOf_1 (by decide) ?_
  obtain ⟨S1, e1, h⟩ := le1_ok h
  refine hr_putI C cf9 fH_RX9_9 hR ha0 e1 dX9_startOf_2 (fun H locs hR => ?_)
  refine lv_aload_n C.1 C.2.1 dX9_startOf_5 rfl (lv_at hl 0 rfl) ?_
  refine lv_aload_n C.1 C.2.1 dX9_startOf_6 rfl (lv_at hl 1 rfl) ?_
  refine ho_getI C cf2 fH_RX9_40 hR ha1 dX9_startOf_7 ?_
  obtain ⟨S2, e2, h⟩ := le1_ok h
  refine hr_putI C cf9 fH_RX9_15 hR ha0 e2 dX9_startOf_10 (fun H locs hR => ?_)
  refine lv_aload_n C.1 C.2.1 dX9_startOf_13 rfl (lv_at hl 0 rfl) ?_
  refine lv_aload_n C.1 C.2.1 dX9_startOf_14 rfl (lv_at hl 1 rfl) ?_
  refine ho_getI C cf2 fH_RX9_43 hR ha1 dX9_startOf_15 ?_
  obtain ⟨S3, e3, h⟩ := le1_ok h
  refine hr_putI C cf9 fH_RX9_18 hR ha0 e3 dX9_startOf_18 (fun H locs hR => ?_)
  refine lv_aload_n C.1 C.2.1 dX9_startOf_21 rfl (lv_at hl 0 rfl) ?_
  refine lv_iconst (v := (0 : Int32)) C.1 C.2.1 dX9_startOf_22 (by decide) ?_
  obtain ⟨S4, e4, h⟩ := le1_ok h
  refine hr_putI C cf9 fH_RX9_34 hR ha0 e4 dX9_startOf_23 (fun H locs hR => ?_)
  refine lv_iconst (v := (0 : Int32)) C.1 C.2.1 dX9_startOf_26 (by decide) ?_
  refine lv_istore_n (lv' := [(2, .int (0 : Int32)), (0, .ref (E.2.1 a0)), (1, .ref (E.2.1 a1))]) C.1 C.2.1 dX9_startOf_27 rfl hl (by decide) rfl (fun ls hl => ?_)
  exact w_X9_startOf_28 C a0 a1 ha0 ha1 5000 (0 : Int32) S4 h _ _ _ hR (lv_sub hl [1, 2, 0] rfl)
theorem dX10_append_0 : decode cX10_append 0 = .ok (.bipush 24, 2) := by decide +kernel
theorem dX10_append_2 : decode cX10_append 2 = .ok (.istore_n 2, 1) := by decide +kernel
theorem dX10_append_3 : decode cX10_append 3 = .ok (.iload_n 2, 1) := by decide +kernel
theorem dX10_append_4 : decode cX10_append 4 = .ok (.ifCond .lt 42, 3) := by decide +kernel
theorem dX10_append_7 : decode cX10_append 7 = .ok (.aload_n 0, 1) := by decide +kernel
theorem dX10_append_8 : decode cX10_append 8 = .ok (.getfield 15, 3) := by decide +kernel
theorem dX10_append_11 : decode cX10_append 11 = .ok (.sipush 1600, 3) := by decide +kernel
theorem dX10_append_14 : decode cX10_append 14 = .ok (.if_icmp .ge 26, 3) := by decide +kernel
theorem dX10_append_17 : decode cX10_append 17 = .ok (.aload_n 0, 1) := by decide +kernel
theorem dX10_append_18 : decode cX10_append 18 = .ok (.getfield 9, 3) := by decide +kernel
theorem dX10_append_21 : decode cX10_append 21 = .ok (.aload_n 0, 1) := by decide +kernel
theorem dX10_append_22 : decode cX10_append 22 = .ok (.getfield 15, 3) := by decide +kernel
theorem dX10_append_25 : decode cX10_append 25 = .ok (.iload_n 1, 1) := by decide +kernel
theorem dX10_append_26 : decode cX10_append 26 = .ok (.iload_n 2, 1) := by decide +kernel
theorem dX10_append_27 : decode cX10_append 27 = .ok (.ishr, 1) := by decide +kernel
theorem dX10_append_28 : decode cX10_append 28 = .ok (.i2b, 1) := by decide +kernel
theorem dX10_append_29 : decode cX10_append 29 = .ok (.bastore, 1) := by decide +kernel
theorem dX10_append_30 : decode cX10_append 30 = .ok (.aload_n 0, 1) := by decide +kernel
theorem dX10_append_31 : decode cX10_append 31 = .ok (.dup, 1) := by decide +kernel
theorem dX10_append_32 : decode cX10_append 32 = .ok (.getfield 15, 3) := by decide +kernel
theorem dX10_append_35 : decode cX10_append 35 = .ok (.iconst 1, 1) := by decide +kernel
theorem dX10_append_36 : decode cX10_append 36 = .ok (.iadd, 1) := by decide +kernel
theorem dX10_append_37 : decode cX10_append 37 = .ok (.putfield 15, 3) := by decide +kernel
theorem dX10_append_40 : decode cX10_append 40 = .ok (.iinc 2 (-8), 3) := by decide +kernel
theorem dX10_append_43 : decode cX10_append 43 = .ok (.goto (-40), 3) := by decide +kernel
theorem dX10_append_46 : decode cX10_append 46 = .ok (.return_, 1) := by decide +kernel
def f_X10_append_40 (K3 : Int32 → Int32 → Hp → Option Hp) (x1 : Int32) (x2 : Int32) (S : Hp) : Option Hp :=
  le1 (x2 + (-8 : Int32)) (fun v1 => K3 x1 v1 S)
set_option maxHeartbeats 4000000 in
set_option maxRecDepth 100000 in
theorem w_X10_append_40 {p : Program} {l : Launch} {e : Env} {s : State} {m : MethodId} {args : Array Value} {below : List Frame} {meth : Method} {c : Code} {E : Ev} {S0 : Hp} {r : Hp} (C : ho_I p s m args meth c RX10 cX10_append 3 none) (K3 : Int32 → Int32 → Hp → Option Hp) (hK3 : ∀ (y1 : Int32) (y2 : Int32) (S : Hp), K3 y1 y2 S = some r → ho_G p l e s m args below meth c yH E S0 0 3 (none, r) 3 [(0, .ref (E.2.1 10)), (1, .int y1), (2, .int y2)] [] S) :
    ∀ (x1 : Int32) (x2 : Int32) (S : Hp), f_X10_append_40 K3 x1 x2 S = some r → ho_G p l e s m args below meth c yH E S0 0 3 (none, r) 40 [(0, .ref (E.2.1 10)), (1, .int x1), (2, .int x2)] [] S := by
  intro x1 x2 S h H locs ls hR hl
  unfold f_X10_append_40 at h
  obtain ⟨v1, e1, h⟩ := le1_ok h
  refine lv_iinc (v := v1) (lv' := [(2, .int v1), (0, .ref (E.2.1 10)), (1, .int x1)]) C.1 C.2.1 dX10_append_40 hl (k := 2) rfl (by rw [e1]; rfl) (by decide) rfl (fun ls hl => ?_)
  refine lv_goto (tgt := 3) C.1 C.2.1 dX10_append_43 (by decide) ?_
  exact hK3 x1 v1 S h _ _ _ hR (lv_sub hl [1, 2, 0] rfl)
def f_X10_append_3 : Nat → Int32 → Int32 → Hp → Option Hp
  | 0, _, _, _ => none
  | k + 1, x1, x2, S => if x2 < 0 then some S else if (1600 : Int32) ≤ (S.1 10 1) then f_X10_append_40 (f_X10_append_3 k) x1 x2 S else stI S 11 1600 (S.1 10 1) (vp_nar .byte ((x1 >>> (x2 &&& 31)).toInt8.toInt32)) (fun S1 => le1 (ho_sI S1 10 1 ((S1.1 10 1) + (1 : Int32))) (fun S2 => f_X10_append_40 (f_X10_append_3 k) x1 x2 S2))
set_option maxHeartbeats 4000000 in
set_option maxRecDepth 100000 in
theorem w_X10_append_3 {p : Program} {l : Launch} {e : Env} {s : State} {m : MethodId} {args : Array Value} {below : List Frame} {meth : Method} {c : Code} {E : Ev} {S0 : Hp} {r : Hp} (C : ho_I p s m args meth c RX10 cX10_append 3 none) :
    ∀ (k : Nat) (x1 : Int32) (x2 : Int32) (S : Hp), f_X10_append_3 k x1 x2 S = some r → ho_G p l e s m args below meth c yH E S0 0 3 (none, r) 3 [(0, .ref (E.2.1 10)), (1, .int x1), (2, .int x2)] [] S := by
  intro k
  induction k with
  | zero =>
    intro x1 x2 S h
    exact absurd (show (none : Option Hp) = some r from h) (by simp)
  | succ k ih =>
    intro x1 x2 S h H locs ls hR hl
    rw [f_X10_append_3] at h
    refine lv_iload_n C.1 C.2.1 dX10_append_3 rfl (lv_at hl 2 rfl) ?_
    refine lv_if_lt (tgt := 46) C.1 C.2.1 dX10_append_4 (by decide) (fun hc => ?_) (fun hc => ?_)
    · replace h := if_t h hc
      exact ho_vret C hR h dX10_append_46
    · replace h := if_f h hc
      refine lv_aload_n C.1 C.2.1 dX10_append_7 rfl (lv_at hl 0 rfl) ?_
      refine ho_getI C cf10 fH_RX10_15 hR aH_10 dX10_append_8 ?_
      refine lv_sipush (v := (1600 : Int32)) C.1 C.2.1 dX10_append_11 (by decide) ?_
      refine lv_icmp_ge (tgt := 40) C.1 C.2.1 dX10_append_14 (by decide) (fun hc => ?_) (fun hc => ?_)
      · replace h := if_t h hc
        exact w_X10_append_40 C (f_X10_append_3 k) ih x1 x2 S h _ _ _ hR (lv_sub hl [0, 1, 2] rfl)
      · replace h := if_f h hc
        refine lv_aload_n C.1 C.2.1 dX10_append_17 rfl (lv_at hl 0 rfl) ?_
        refine ho_getR (a' := 11) C cf10 fH_RX10_9 hR aH_10 rfl dX10_append_18 ?_
        refine lv_aload_n C.1 C.2.1 dX10_append_21 rfl (lv_at hl 0 rfl) ?_
        refine ho_getI C cf10 fH_RX10_15 hR aH_10 dX10_append_22 ?_
        refine lv_iload_n C.1 C.2.1 dX10_append_25 rfl (lv_at hl 1 rfl) ?_
        refine lv_iload_n C.1 C.2.1 dX10_append_26 rfl (lv_at hl 2 rfl) ?_
        refine lv_ishr C.1 C.2.1 dX10_append_27 ?_
        refine lv_i2b (v := ((x1 >>> (x2 &&& 31)).toInt8.toInt32)) C.1 C.2.1 dX10_append_28 rfl ?_
        obtain ⟨S1, e1, hi1, h⟩ := stI_ok h
        refine hr_bst C hR aH_11 hi1 e1 dX10_append_29 (fun H locs hR => ?_)
        refine lv_aload_n C.1 C.2.1 dX10_append_30 rfl (lv_at hl 0 rfl) ?_
        refine lv_dup C.1 C.2.1 dX10_append_31 rfl ?_
        refine ho_getI C cf10 fH_RX10_15 hR aH_10 dX10_append_32 ?_
        refine lv_iconst (v := (1 : Int32)) C.1 C.2.1 dX10_append_35 (by decide) ?_
        refine lv_iadd C.1 C.2.1 dX10_append_36 ?_
        obtain ⟨S2, e2, h⟩ := le1_ok h
        refine hr_putI C cf10 fH_RX10_15 hR aH_10 e2 dX10_append_37 (fun H locs hR => ?_)
        exact w_X10_append_40 C (f_X10_append_3 k) ih x1 x2 S2 h _ _ _ hR (lv_sub hl [0, 1, 2] rfl)
def f_X10_append (x1 : Int32) (S : Hp) : Option Hp :=
  f_X10_append_3 5000 x1 (24 : Int32) S
set_option maxHeartbeats 4000000 in
set_option maxRecDepth 100000 in
theorem c_X10_append (l : Launch) (E : Ev) (x1 : Int32) (S : Hp) (r : Hp) (h : f_X10_append x1 S = some r) : ho_M l yH E yX10_append cX10_append 3 none 0 [.ref (E.2.1 10), .int x1] S (none, r) := by
  refine ho_in (by decide) (Nat.le_of_ble_eq_true rfl) ?_
  intro p e s m args below meth c C hR ls hl
  have C : ho_I p s m args meth c RX10 cX10_append 3 none := C
  have hl : lv_has ls 3 [(0, .ref (E.2.1 10)), (1, .int x1)] := hl
  unfold f_X10_append at h
  refine lv_bipush (v := (24 : Int32)) C.1 C.2.1 dX10_append_0 (by decide) ?_
  refine lv_istore_n (lv' := [(2, .int (24 : Int32)), (0, .ref (E.2.1 10)), (1, .int x1)]) C.1 C.2.1 dX10_append_2 rfl hl (by decide) rfl (fun ls hl => ?_)
  exact w_X10_append_3 C 5000 x1 (24 : Int32) S h _ _ _ hR (lv_sub hl [1, 2, 0] rfl)
