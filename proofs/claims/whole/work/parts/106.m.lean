theorem dX12_qDropsNots_0 : decode cX12_qDropsNots 0 = .ok (.aload_n 0, 1) := by decide +kernel
theorem dX12_qDropsNots_1 : decode cX12_qDropsNots 1 = .ok (.getfield 264, 3) := by decide +kernel
theorem dX12_qDropsNots_4 : decode cX12_qDropsNots 4 = .ok (.ifCond .ne 29, 3) := by decide +kernel
theorem dX12_qDropsNots_7 : decode cX12_qDropsNots 7 = .ok (.aload_n 0, 1) := by decide +kernel
theorem dX12_qDropsNots_8 : decode cX12_qDropsNots 8 = .ok (.bipush 12, 2) := by decide +kernel
theorem dX12_qDropsNots_10 : decode cX12_qDropsNots 10 = .ok (.invokevirtual 640, 3) := by decide +kernel
theorem dX12_qDropsNots_13 : decode cX12_qDropsNots 13 = .ok (.ifCond .eq 20, 3) := by decide +kernel
theorem dX12_qDropsNots_16 : decode cX12_qDropsNots 16 = .ok (.aload_n 0, 1) := by decide +kernel
theorem dX12_qDropsNots_17 : decode cX12_qDropsNots 17 = .ok (.dup, 1) := by decide +kernel
theorem dX12_qDropsNots_18 : decode cX12_qDropsNots 18 = .ok (.getfield 358, 3) := by decide +kernel
theorem dX12_qDropsNots_21 : decode cX12_qDropsNots 21 = .ok (.iconst 1, 1) := by decide +kernel
theorem dX12_qDropsNots_22 : decode cX12_qDropsNots 22 = .ok (.isub, 1) := by decide +kernel
theorem dX12_qDropsNots_23 : decode cX12_qDropsNots 23 = .ok (.putfield 358, 3) := by decide +kernel
theorem dX12_qDropsNots_26 : decode cX12_qDropsNots 26 = .ok (.aload_n 0, 1) := by decide +kernel
theorem dX12_qDropsNots_27 : decode cX12_qDropsNots 27 = .ok (.invokevirtual 613, 3) := by decide +kernel
theorem dX12_qDropsNots_30 : decode cX12_qDropsNots 30 = .ok (.goto (-30), 3) := by decide +kernel
theorem dX12_qDropsNots_33 : decode cX12_qDropsNots 33 = .ok (.return_, 1) := by decide +kernel
def f_X12_qDropsNots_0 : Nat → Hp → Option Hp
  | 0, _ => none
  | k + 1, S => if (S.1 0 5) = 0 then ob2 (f_X12_qIsOn (12 : Int32) S) (fun r1 S1 => if r1 = 0 then some S1 else le1 (ho_sI S1 0 103 ((S1.1 0 103) - (1 : Int32))) (fun S2 => ob (f_X12_qDrops S2) (fun S3 => f_X12_qDropsNots_0 k S3))) else some S
set_option maxHeartbeats 4000000 in
set_option maxRecDepth 100000 in
theorem w_X12_qDropsNots_0 {p : Program} {l : Launch} {e : Env} {s : State} {m : MethodId} {args : Array Value} {below : List Frame} {meth : Method} {c : Code} {E : Ev} {S0 : Hp} {r : Hp} (C : ho_I p s m args meth c RX12 cX12_qDropsNots 1 none) :
    ∀ (k : Nat) (S : Hp), f_X12_qDropsNots_0 k S = some r → ho_G p l e s m args below meth c yM E S0 2 1 (none, r) 0 [(0, .ref (E.2.1 0))] [] S := by
  intro k
  induction k with
  | zero =>
    intro S h
    exact absurd (show (none : Option Hp) = some r from h) (by simp)
  | succ k ih =>
    intro S h H locs ls hR hl
    rw [f_X12_qDropsNots_0] at h
    refine lv_aload_n C.1 C.2.1 dX12_qDropsNots_0 rfl (lv_at hl 0 rfl) ?_
    refine ho_getI C cf12 fM_264 hR aM_0 dX12_qDropsNots_1 ?_
    refine lv_if_ne (tgt := 33) C.1 C.2.1 dX12_qDropsNots_4 (by decide) (fun hc => ?_) (fun hc => ?_)
    · replace h := if_f h hc
      exact ho_vret C hR h dX12_qDropsNots_33
    · replace h := if_t h hc
      refine lv_aload_n C.1 C.2.1 dX12_qDropsNots_7 rfl (lv_at hl 0 rfl) ?_
      refine lv_bipush (v := (12 : Int32)) C.1 C.2.1 dX12_qDropsNots_8 (by decide) ?_
      obtain ⟨r1, S1, h1, h⟩ := ob2_ok h
      refine hr_Vi (v := r1) (S' := S1) (As := [.int (12 : Int32)]) (rest := []) C cf12 (c_X12_qIsOn l E (12 : Int32) _ _ h1) yv_X12_qIsOn lk_RX12_640 rfl aM_0 rfl rfl hl.1 (Nat.le_of_ble_eq_true rfl) (by decide) (by decide) hR (ho_A hR) dX12_qDropsNots_10 (fun H locs hR => ?_)
      refine lv_if_eq (tgt := 33) C.1 C.2.1 dX12_qDropsNots_13 (by decide) (fun hc => ?_) (fun hc => ?_)
      · replace h := if_t h hc
        exact ho_vret C hR h dX12_qDropsNots_33
      · replace h := if_f h hc
        refine lv_aload_n C.1 C.2.1 dX12_qDropsNots_16 rfl (lv_at hl 0 rfl) ?_
        refine lv_dup C.1 C.2.1 dX12_qDropsNots_17 rfl ?_
        refine ho_getI C cf12 fM_358 hR aM_0 dX12_qDropsNots_18 ?_
        refine lv_iconst (v := (1 : Int32)) C.1 C.2.1 dX12_qDropsNots_21 (by decide) ?_
        refine lv_isub C.1 C.2.1 dX12_qDropsNots_22 ?_
        obtain ⟨S2, e2, h⟩ := le1_ok h
        refine hr_putI C cf12 fM_358 hR aM_0 e2 dX12_qDropsNots_23 (fun H locs hR => ?_)
        refine lv_aload_n C.1 C.2.1 dX12_qDropsNots_26 rfl (lv_at hl 0 rfl) ?_
        obtain ⟨S3, h3, h⟩ := ob_ok h
        refine hr_Vv (S' := S3) (As := []) (rest := []) C cf12 (c_X12_qDrops l E _ _ h3) yv_X12_qDrops lk_RX12_613 rfl aM_0 rfl rfl hl.1 (Nat.le_of_ble_eq_true rfl) (by decide) (by decide) hR (ho_A hR) dX12_qDropsNots_27 (fun H locs hR => ?_)
        refine lv_goto (tgt := 0) C.1 C.2.1 dX12_qDropsNots_30 (by decide) ?_
        exact ih S3 h _ _ _ hR (lv_sub hl [0] rfl)
def f_X12_qDropsNots (S : Hp) : Option Hp :=
  f_X12_qDropsNots_0 5000 S
set_option maxHeartbeats 4000000 in
set_option maxRecDepth 100000 in
theorem c_X12_qDropsNots (l : Launch) (E : Ev) (S : Hp) (r : Hp) (h : f_X12_qDropsNots S = some r) : ho_M l yM E yX12_qDropsNots cX12_qDropsNots 1 none 2 [.ref (E.2.1 0)] S (none, r) := by
  refine ho_in (by decide) (Nat.le_of_ble_eq_true rfl) ?_
  intro p e s m args below meth c C hR ls hl
  have C : ho_I p s m args meth c RX12 cX12_qDropsNots 1 none := C
  have hl : lv_has ls 1 [(0, .ref (E.2.1 0))] := hl
  unfold f_X12_qDropsNots at h
  exact w_X12_qDropsNots_0 C 5000 S h _ _ _ hR (lv_sub hl [0] rfl)
theorem dX12_qGoesOnTest_0 : decode cX12_qGoesOnTest 0 = .ok (.aload_n 0, 1) := by decide +kernel
theorem dX12_qGoesOnTest_1 : decode cX12_qGoesOnTest 1 = .ok (.getfield 264, 3) := by decide +kernel
theorem dX12_qGoesOnTest_4 : decode cX12_qGoesOnTest 4 = .ok (.ifCond .ne 72, 3) := by decide +kernel
theorem dX12_qGoesOnTest_7 : decode cX12_qGoesOnTest 7 = .ok (.aload_n 0, 1) := by decide +kernel
theorem dX12_qGoesOnTest_8 : decode cX12_qGoesOnTest 8 = .ok (.invokevirtual 276, 3) := by decide +kernel
theorem dX12_qGoesOnTest_11 : decode cX12_qGoesOnTest 11 = .ok (.bipush 93, 2) := by decide +kernel
theorem dX12_qGoesOnTest_13 : decode cX12_qGoesOnTest 13 = .ok (.if_icmp .ne 63, 3) := by decide +kernel
theorem dX12_qGoesOnTest_16 : decode cX12_qGoesOnTest 16 = .ok (.aload_n 0, 1) := by decide +kernel
theorem dX12_qGoesOnTest_17 : decode cX12_qGoesOnTest 17 = .ok (.invokevirtual 658, 3) := by decide +kernel
theorem dX12_qGoesOnTest_20 : decode cX12_qGoesOnTest 20 = .ok (.ifCond .eq 56, 3) := by decide +kernel
theorem dX12_qGoesOnTest_23 : decode cX12_qGoesOnTest 23 = .ok (.aload_n 0, 1) := by decide +kernel
theorem dX12_qGoesOnTest_24 : decode cX12_qGoesOnTest 24 = .ok (.dup, 1) := by decide +kernel
theorem dX12_qGoesOnTest_25 : decode cX12_qGoesOnTest 25 = .ok (.getfield 270, 3) := by decide +kernel
theorem dX12_qGoesOnTest_28 : decode cX12_qGoesOnTest 28 = .ok (.iconst 1, 1) := by decide +kernel
theorem dX12_qGoesOnTest_29 : decode cX12_qGoesOnTest 29 = .ok (.iadd, 1) := by decide +kernel
theorem dX12_qGoesOnTest_30 : decode cX12_qGoesOnTest 30 = .ok (.putfield 270, 3) := by decide +kernel
theorem dX12_qGoesOnTest_33 : decode cX12_qGoesOnTest 33 = .ok (.aload_n 0, 1) := by decide +kernel
theorem dX12_qGoesOnTest_34 : decode cX12_qGoesOnTest 34 = .ok (.bipush 25, 2) := by decide +kernel
theorem dX12_qGoesOnTest_36 : decode cX12_qGoesOnTest 36 = .ok (.invokevirtual 640, 3) := by decide +kernel
theorem dX12_qGoesOnTest_39 : decode cX12_qGoesOnTest 39 = .ok (.ifCond .ne 10, 3) := by decide +kernel
theorem dX12_qGoesOnTest_42 : decode cX12_qGoesOnTest 42 = .ok (.aload_n 0, 1) := by decide +kernel
theorem dX12_qGoesOnTest_43 : decode cX12_qGoesOnTest 43 = .ok (.invokevirtual 613, 3) := by decide +kernel
theorem dX12_qGoesOnTest_46 : decode cX12_qGoesOnTest 46 = .ok (.goto (-13), 3) := by decide +kernel
theorem dX12_qGoesOnTest_49 : decode cX12_qGoesOnTest 49 = .ok (.aload_n 0, 1) := by decide +kernel
theorem dX12_qGoesOnTest_50 : decode cX12_qGoesOnTest 50 = .ok (.dup, 1) := by decide +kernel
theorem dX12_qGoesOnTest_51 : decode cX12_qGoesOnTest 51 = .ok (.getfield 355, 3) := by decide +kernel
theorem dX12_qGoesOnTest_54 : decode cX12_qGoesOnTest 54 = .ok (.iconst 1, 1) := by decide +kernel
theorem dX12_qGoesOnTest_55 : decode cX12_qGoesOnTest 55 = .ok (.isub, 1) := by decide +kernel
theorem dX12_qGoesOnTest_56 : decode cX12_qGoesOnTest 56 = .ok (.putfield 355, 3) := by decide +kernel
theorem dX12_qGoesOnTest_59 : decode cX12_qGoesOnTest 59 = .ok (.aload_n 0, 1) := by decide +kernel
theorem dX12_qGoesOnTest_60 : decode cX12_qGoesOnTest 60 = .ok (.dup, 1) := by decide +kernel
theorem dX12_qGoesOnTest_61 : decode cX12_qGoesOnTest 61 = .ok (.getfield 358, 3) := by decide +kernel
theorem dX12_qGoesOnTest_64 : decode cX12_qGoesOnTest 64 = .ok (.iconst 1, 1) := by decide +kernel
theorem dX12_qGoesOnTest_65 : decode cX12_qGoesOnTest 65 = .ok (.isub, 1) := by decide +kernel
theorem dX12_qGoesOnTest_66 : decode cX12_qGoesOnTest 66 = .ok (.putfield 358, 3) := by decide +kernel
theorem dX12_qGoesOnTest_69 : decode cX12_qGoesOnTest 69 = .ok (.aload_n 0, 1) := by decide +kernel
theorem dX12_qGoesOnTest_70 : decode cX12_qGoesOnTest 70 = .ok (.invokevirtual 652, 3) := by decide +kernel
theorem dX12_qGoesOnTest_73 : decode cX12_qGoesOnTest 73 = .ok (.goto (-73), 3) := by decide +kernel
theorem dX12_qGoesOnTest_76 : decode cX12_qGoesOnTest 76 = .ok (.aload_n 0, 1) := by decide +kernel
theorem dX12_qGoesOnTest_77 : decode cX12_qGoesOnTest 77 = .ok (.aload_n 0, 1) := by decide +kernel
theorem dX12_qGoesOnTest_78 : decode cX12_qGoesOnTest 78 = .ok (.getfield 198, 3) := by decide +kernel
theorem dX12_qGoesOnTest_81 : decode cX12_qGoesOnTest 81 = .ok (.invokevirtual 291, 3) := by decide +kernel
theorem dX12_qGoesOnTest_84 : decode cX12_qGoesOnTest 84 = .ok (.ifCond .eq 42, 3) := by decide +kernel
theorem dX12_qGoesOnTest_87 : decode cX12_qGoesOnTest 87 = .ok (.aload_n 0, 1) := by decide +kernel
theorem dX12_qGoesOnTest_88 : decode cX12_qGoesOnTest 88 = .ok (.bipush 10, 2) := by decide +kernel
theorem dX12_qGoesOnTest_90 : decode cX12_qGoesOnTest 90 = .ok (.invokevirtual 640, 3) := by decide +kernel
theorem dX12_qGoesOnTest_93 : decode cX12_qGoesOnTest 93 = .ok (.ifCond .eq 10, 3) := by decide +kernel
theorem dX12_qGoesOnTest_96 : decode cX12_qGoesOnTest 96 = .ok (.aload_n 0, 1) := by decide +kernel
theorem dX12_qGoesOnTest_97 : decode cX12_qGoesOnTest 97 = .ok (.invokevirtual 613, 3) := by decide +kernel
theorem dX12_qGoesOnTest_100 : decode cX12_qGoesOnTest 100 = .ok (.goto (-13), 3) := by decide +kernel
theorem dX12_qGoesOnTest_103 : decode cX12_qGoesOnTest 103 = .ok (.aload_n 0, 1) := by decide +kernel
theorem dX12_qGoesOnTest_104 : decode cX12_qGoesOnTest 104 = .ok (.getfield 252, 3) := by decide +kernel
theorem dX12_qGoesOnTest_107 : decode cX12_qGoesOnTest 107 = .ok (.aload_n 0, 1) := by decide +kernel
theorem dX12_qGoesOnTest_108 : decode cX12_qGoesOnTest 108 = .ok (.getfield 355, 3) := by decide +kernel
theorem dX12_qGoesOnTest_111 : decode cX12_qGoesOnTest 111 = .ok (.bipush 10, 2) := by decide +kernel
theorem dX12_qGoesOnTest_113 : decode cX12_qGoesOnTest 113 = .ok (.iastore, 1) := by decide +kernel
theorem dX12_qGoesOnTest_114 : decode cX12_qGoesOnTest 114 = .ok (.aload_n 0, 1) := by decide +kernel
theorem dX12_qGoesOnTest_115 : decode cX12_qGoesOnTest 115 = .ok (.dup, 1) := by decide +kernel
theorem dX12_qGoesOnTest_116 : decode cX12_qGoesOnTest 116 = .ok (.getfield 355, 3) := by decide +kernel
theorem dX12_qGoesOnTest_119 : decode cX12_qGoesOnTest 119 = .ok (.iconst 1, 1) := by decide +kernel
theorem dX12_qGoesOnTest_120 : decode cX12_qGoesOnTest 120 = .ok (.iadd, 1) := by decide +kernel
theorem dX12_qGoesOnTest_121 : decode cX12_qGoesOnTest 121 = .ok (.putfield 355, 3) := by decide +kernel
theorem dX12_qGoesOnTest_124 : decode cX12_qGoesOnTest 124 = .ok (.iconst 1, 1) := by decide +kernel
theorem dX12_qGoesOnTest_125 : decode cX12_qGoesOnTest 125 = .ok (.ireturn, 1) := by decide +kernel
theorem dX12_qGoesOnTest_126 : decode cX12_qGoesOnTest 126 = .ok (.aload_n 0, 1) := by decide +kernel
theorem dX12_qGoesOnTest_127 : decode cX12_qGoesOnTest 127 = .ok (.aload_n 0, 1) := by decide +kernel
theorem dX12_qGoesOnTest_128 : decode cX12_qGoesOnTest 128 = .ok (.getfield 201, 3) := by decide +kernel
theorem dX12_qGoesOnTest_131 : decode cX12_qGoesOnTest 131 = .ok (.invokevirtual 291, 3) := by decide +kernel
theorem dX12_qGoesOnTest_134 : decode cX12_qGoesOnTest 134 = .ok (.ifCond .eq 51, 3) := by decide +kernel
theorem dX12_qGoesOnTest_137 : decode cX12_qGoesOnTest 137 = .ok (.aload_n 0, 1) := by decide +kernel
theorem dX12_qGoesOnTest_138 : decode cX12_qGoesOnTest 138 = .ok (.bipush 10, 2) := by decide +kernel
theorem dX12_qGoesOnTest_140 : decode cX12_qGoesOnTest 140 = .ok (.invokevirtual 640, 3) := by decide +kernel
theorem dX12_qGoesOnTest_143 : decode cX12_qGoesOnTest 143 = .ok (.ifCond .ne 12, 3) := by decide +kernel
theorem dX12_qGoesOnTest_146 : decode cX12_qGoesOnTest 146 = .ok (.aload_n 0, 1) := by decide +kernel
theorem dX12_qGoesOnTest_147 : decode cX12_qGoesOnTest 147 = .ok (.bipush 11, 2) := by decide +kernel
theorem dX12_qGoesOnTest_149 : decode cX12_qGoesOnTest 149 = .ok (.invokevirtual 640, 3) := by decide +kernel
theorem dX12_qGoesOnTest_152 : decode cX12_qGoesOnTest 152 = .ok (.ifCond .eq 10, 3) := by decide +kernel
theorem dX12_qGoesOnTest_155 : decode cX12_qGoesOnTest 155 = .ok (.aload_n 0, 1) := by decide +kernel
theorem dX12_qGoesOnTest_156 : decode cX12_qGoesOnTest 156 = .ok (.invokevirtual 613, 3) := by decide +kernel
theorem dX12_qGoesOnTest_159 : decode cX12_qGoesOnTest 159 = .ok (.goto (-22), 3) := by decide +kernel
theorem dX12_qGoesOnTest_162 : decode cX12_qGoesOnTest 162 = .ok (.aload_n 0, 1) := by decide +kernel
theorem dX12_qGoesOnTest_163 : decode cX12_qGoesOnTest 163 = .ok (.getfield 252, 3) := by decide +kernel
theorem dX12_qGoesOnTest_166 : decode cX12_qGoesOnTest 166 = .ok (.aload_n 0, 1) := by decide +kernel
theorem dX12_qGoesOnTest_167 : decode cX12_qGoesOnTest 167 = .ok (.getfield 355, 3) := by decide +kernel
theorem dX12_qGoesOnTest_170 : decode cX12_qGoesOnTest 170 = .ok (.bipush 11, 2) := by decide +kernel
theorem dX12_qGoesOnTest_172 : decode cX12_qGoesOnTest 172 = .ok (.iastore, 1) := by decide +kernel
theorem dX12_qGoesOnTest_173 : decode cX12_qGoesOnTest 173 = .ok (.aload_n 0, 1) := by decide +kernel
theorem dX12_qGoesOnTest_174 : decode cX12_qGoesOnTest 174 = .ok (.dup, 1) := by decide +kernel
theorem dX12_qGoesOnTest_175 : decode cX12_qGoesOnTest 175 = .ok (.getfield 355, 3) := by decide +kernel
theorem dX12_qGoesOnTest_178 : decode cX12_qGoesOnTest 178 = .ok (.iconst 1, 1) := by decide +kernel
theorem dX12_qGoesOnTest_179 : decode cX12_qGoesOnTest 179 = .ok (.iadd, 1) := by decide +kernel
theorem dX12_qGoesOnTest_180 : decode cX12_qGoesOnTest 180 = .ok (.putfield 355, 3) := by decide +kernel
theorem dX12_qGoesOnTest_183 : decode cX12_qGoesOnTest 183 = .ok (.iconst 1, 1) := by decide +kernel
theorem dX12_qGoesOnTest_184 : decode cX12_qGoesOnTest 184 = .ok (.ireturn, 1) := by decide +kernel
theorem dX12_qGoesOnTest_185 : decode cX12_qGoesOnTest 185 = .ok (.aload_n 0, 1) := by decide +kernel
theorem dX12_qGoesOnTest_186 : decode cX12_qGoesOnTest 186 = .ok (.getfield 264, 3) := by decide +kernel
theorem dX12_qGoesOnTest_189 : decode cX12_qGoesOnTest 189 = .ok (.ifCond .ne 19, 3) := by decide +kernel
theorem dX12_qGoesOnTest_192 : decode cX12_qGoesOnTest 192 = .ok (.aload_n 0, 1) := by decide +kernel
theorem dX12_qGoesOnTest_193 : decode cX12_qGoesOnTest 193 = .ok (.invokevirtual 658, 3) := by decide +kernel
theorem dX12_qGoesOnTest_196 : decode cX12_qGoesOnTest 196 = .ok (.ifCond .eq 12, 3) := by decide +kernel
theorem dX12_qGoesOnTest_199 : decode cX12_qGoesOnTest 199 = .ok (.aload_n 0, 1) := by decide +kernel
theorem dX12_qGoesOnTest_200 : decode cX12_qGoesOnTest 200 = .ok (.iconst 1, 1) := by decide +kernel
theorem dX12_qGoesOnTest_201 : decode cX12_qGoesOnTest 201 = .ok (.aload_n 0, 1) := by decide +kernel
theorem dX12_qGoesOnTest_202 : decode cX12_qGoesOnTest 202 = .ok (.getfield 270, 3) := by decide +kernel
theorem dX12_qGoesOnTest_205 : decode cX12_qGoesOnTest 205 = .ok (.invokevirtual 294, 3) := by decide +kernel
theorem dX12_qGoesOnTest_208 : decode cX12_qGoesOnTest 208 = .ok (.iconst 0, 1) := by decide +kernel
theorem dX12_qGoesOnTest_209 : decode cX12_qGoesOnTest 209 = .ok (.ireturn, 1) := by decide +kernel
def f_X12_qGoesOnTest_155 (K137 : Hp → Option (Int32 × Hp)) (S : Hp) : Option (Int32 × Hp) :=
  ob (f_X12_qDrops S) (fun S1 => K137 S1)
set_option maxHeartbeats 4000000 in
set_option maxRecDepth 100000 in
theorem w_X12_qGoesOnTest_155 {p : Program} {l : Launch} {e : Env} {s : State} {m : MethodId} {args : Array Value} {below : List Frame} {meth : Method} {c : Code} {E : Ev} {S0 : Hp} {r : (Int32 × Hp)} (C : ho_I p s m args meth c RX12 cX12_qGoesOnTest 1 (some .boolean)) (K137 : Hp → Option (Int32 × Hp)) (hK137 : ∀ (S : Hp), K137 S = some r → ho_G p l e s m args below meth c yM E S0 3 1 (some (.int r.1), r.2) 137 [(0, .ref (E.2.1 0))] [] S) :
    ∀ (S : Hp), f_X12_qGoesOnTest_155 K137 S = some r → ho_G p l e s m args below meth c yM E S0 3 1 (some (.int r.1), r.2) 155 [(0, .ref (E.2.1 0))] [] S := by
  intro S h H locs ls hR hl
  unfold f_X12_qGoesOnTest_155 at h
  refine lv_aload_n C.1 C.2.1 dX12_qGoesOnTest_155 rfl (lv_at hl 0 rfl) ?_
  obtain ⟨S1, h1, h⟩ := ob_ok h
  refine hr_Vv (S' := S1) (As := []) (rest := []) C cf12 (c_X12_qDrops l E _ _ h1) yv_X12_qDrops lk_RX12_613 rfl aM_0 rfl rfl hl.1 (Nat.le_of_ble_eq_true rfl) (by decide) (by decide) hR (ho_A hR) dX12_qGoesOnTest_156 (fun H locs hR => ?_)
  refine lv_goto (tgt := 137) C.1 C.2.1 dX12_qGoesOnTest_159 (by decide) ?_
  exact hK137 S1 h _ _ _ hR (lv_sub hl [0] rfl)
def f_X12_qGoesOnTest_137 : Nat → Hp → Option (Int32 × Hp)
  | 0, _ => none
  | k + 1, S => ob2 (f_X12_qIsOn (10 : Int32) S) (fun r1 S1 => if r1 = 0 then ob2 (f_X12_qIsOn (11 : Int32) S1) (fun r2 S2 => if r2 = 0 then stI S2 102 1700 (S2.1 0 102) (11 : Int32) (fun S3 => le1 (ho_sI S3 0 102 ((S3.1 0 102) + (1 : Int32))) (fun S4 => some ((1 : Int32), S4))) else f_X12_qGoesOnTest_155 (f_X12_qGoesOnTest_137 k) S2) else f_X12_qGoesOnTest_155 (f_X12_qGoesOnTest_137 k) S1)
set_option maxHeartbeats 4000000 in
set_option maxRecDepth 100000 in
theorem w_X12_qGoesOnTest_137 {p : Program} {l : Launch} {e : Env} {s : State} {m : MethodId} {args : Array Value} {below : List Frame} {meth : Method} {c : Code} {E : Ev} {S0 : Hp} {r : (Int32 × Hp)} (C : ho_I p s m args meth c RX12 cX12_qGoesOnTest 1 (some .boolean)) :
    ∀ (k : Nat) (S : Hp), f_X12_qGoesOnTest_137 k S = some r → ho_G p l e s m args below meth c yM E S0 3 1 (some (.int r.1), r.2) 137 [(0, .ref (E.2.1 0))] [] S := by
  intro k
  induction k with
  | zero =>
    intro S h
    exact absurd (show (none : Option (Int32 × Hp)) = some r from h) (by simp)
  | succ k ih =>
    intro S h H locs ls hR hl
    rw [f_X12_qGoesOnTest_137] at h
    refine lv_aload_n C.1 C.2.1 dX12_qGoesOnTest_137 rfl (lv_at hl 0 rfl) ?_
    refine lv_bipush (v := (10 : Int32)) C.1 C.2.1 dX12_qGoesOnTest_138 (by decide) ?_
    obtain ⟨r1, S1, h1, h⟩ := ob2_ok h
    refine hr_Vi (v := r1) (S' := S1) (As := [.int (10 : Int32)]) (rest := []) C cf12 (c_X12_qIsOn l E (10 : Int32) _ _ h1) yv_X12_qIsOn lk_RX12_640 rfl aM_0 rfl rfl hl.1 (Nat.le_of_ble_eq_true rfl) (by decide) (by decide) hR (ho_A hR) dX12_qGoesOnTest_140 (fun H locs hR => ?_)
    refine lv_if_ne (tgt := 155) C.1 C.2.1 dX12_qGoesOnTest_143 (by decide) (fun hc => ?_) (fun hc => ?_)
    · replace h := if_f h hc
      exact w_X12_qGoesOnTest_155 C (f_X12_qGoesOnTest_137 k) ih S1 h _ _ _ hR (lv_sub hl [0] rfl)
    · replace h := if_t h hc
      refine lv_aload_n C.1 C.2.1 dX12_qGoesOnTest_146 rfl (lv_at hl 0 rfl) ?_
      refine lv_bipush (v := (11 : Int32)) C.1 C.2.1 dX12_qGoesOnTest_147 (by decide) ?_
      obtain ⟨r2, S2, h2, h⟩ := ob2_ok h
      refine hr_Vi (v := r2) (S' := S2) (As := [.int (11 : Int32)]) (rest := []) C cf12 (c_X12_qIsOn l E (11 : Int32) _ _ h2) yv_X12_qIsOn lk_RX12_640 rfl aM_0 rfl rfl hl.1 (Nat.le_of_ble_eq_true rfl) (by decide) (by decide) hR (ho_A hR) dX12_qGoesOnTest_149 (fun H locs hR => ?_)
      refine lv_if_eq (tgt := 162) C.1 C.2.1 dX12_qGoesOnTest_152 (by decide) (fun hc => ?_) (fun hc => ?_)
      · replace h := if_t h hc
        refine lv_aload_n C.1 C.2.1 dX12_qGoesOnTest_162 rfl (lv_at hl 0 rfl) ?_
        refine ho_getR (a' := 102) C cf12 fM_252 hR aM_0 rfl dX12_qGoesOnTest_163 ?_
        refine lv_aload_n C.1 C.2.1 dX12_qGoesOnTest_166 rfl (lv_at hl 0 rfl) ?_
        refine ho_getI C cf12 fM_355 hR aM_0 dX12_qGoesOnTest_167 ?_
        refine lv_bipush (v := (11 : Int32)) C.1 C.2.1 dX12_qGoesOnTest_170 (by decide) ?_
        obtain ⟨S3, e3, hi3, h⟩ := stI_ok h
        refine hr_ist C hR aM_102 hi3 e3 dX12_qGoesOnTest_172 (fun H locs hR => ?_)
        refine lv_aload_n C.1 C.2.1 dX12_qGoesOnTest_173 rfl (lv_at hl 0 rfl) ?_
        refine lv_dup C.1 C.2.1 dX12_qGoesOnTest_174 rfl ?_
        refine ho_getI C cf12 fM_355 hR aM_0 dX12_qGoesOnTest_175 ?_
        refine lv_iconst (v := (1 : Int32)) C.1 C.2.1 dX12_qGoesOnTest_178 (by decide) ?_
        refine lv_iadd C.1 C.2.1 dX12_qGoesOnTest_179 ?_
        obtain ⟨S4, e4, h⟩ := le1_ok h
        refine hr_putI C cf12 fM_355 hR aM_0 e4 dX12_qGoesOnTest_180 (fun H locs hR => ?_)
        refine lv_iconst (v := (1 : Int32)) C.1 C.2.1 dX12_qGoesOnTest_183 (by decide) ?_
        exact ho_zret C hR (Or.inr rfl) h dX12_qGoesOnTest_184
      · replace h := if_f h hc
        exact w_X12_qGoesOnTest_155 C (f_X12_qGoesOnTest_137 k) ih S2 h _ _ _ hR (lv_sub hl [0] rfl)
def f_X12_qGoesOnTest_87 : Nat → Hp → Option (Int32 × Hp)
  | 0, _ => none
  | k + 1, S => ob2 (f_X12_qIsOn (10 : Int32) S) (fun r1 S1 => if r1 = 0 then stI S1 102 1700 (S1.1 0 102) (10 : Int32) (fun S2 => le1 (ho_sI S2 0 102 ((S2.1 0 102) + (1 : Int32))) (fun S3 => some ((1 : Int32), S3))) else ob (f_X12_qDrops S1) (fun S4 => f_X12_qGoesOnTest_87 k S4))
set_option maxHeartbeats 4000000 in
set_option maxRecDepth 100000 in
theorem w_X12_qGoesOnTest_87 {p : Program} {l : Launch} {e : Env} {s : State} {m : MethodId} {args : Array Value} {below : List Frame} {meth : Method} {c : Code} {E : Ev} {S0 : Hp} {r : (Int32 × Hp)} (C : ho_I p s m args meth c RX12 cX12_qGoesOnTest 1 (some .boolean)) :
    ∀ (k : Nat) (S : Hp), f_X12_qGoesOnTest_87 k S = some r → ho_G p l e s m args below meth c yM E S0 3 1 (some (.int r.1), r.2) 87 [(0, .ref (E.2.1 0))] [] S := by
  intro k
  induction k with
  | zero =>
    intro S h
    exact absurd (show (none : Option (Int32 × Hp)) = some r from h) (by simp)
  | succ k ih =>
    intro S h H locs ls hR hl
    rw [f_X12_qGoesOnTest_87] at h
    refine lv_aload_n C.1 C.2.1 dX12_qGoesOnTest_87 rfl (lv_at hl 0 rfl) ?_
    refine lv_bipush (v := (10 : Int32)) C.1 C.2.1 dX12_qGoesOnTest_88 (by decide) ?_
    obtain ⟨r1, S1, h1, h⟩ := ob2_ok h
    refine hr_Vi (v := r1) (S' := S1) (As := [.int (10 : Int32)]) (rest := []) C cf12 (c_X12_qIsOn l E (10 : Int32) _ _ h1) yv_X12_qIsOn lk_RX12_640 rfl aM_0 rfl rfl hl.1 (Nat.le_of_ble_eq_true rfl) (by decide) (by decide) hR (ho_A hR) dX12_qGoesOnTest_90 (fun H locs hR => ?_)
    refine lv_if_eq (tgt := 103) C.1 C.2.1 dX12_qGoesOnTest_93 (by decide) (fun hc => ?_) (fun hc => ?_)
    · replace h := if_t h hc
      refine lv_aload_n C.1 C.2.1 dX12_qGoesOnTest_103 rfl (lv_at hl 0 rfl) ?_
      refine ho_getR (a' := 102) C cf12 fM_252 hR aM_0 rfl dX12_qGoesOnTest_104 ?_
      refine lv_aload_n C.1 C.2.1 dX12_qGoesOnTest_107 rfl (lv_at hl 0 rfl) ?_
      refine ho_getI C cf12 fM_355 hR aM_0 dX12_qGoesOnTest_108 ?_
      refine lv_bipush (v := (10 : Int32)) C.1 C.2.1 dX12_qGoesOnTest_111 (by decide) ?_
      obtain ⟨S2, e2, hi2, h⟩ := stI_ok h
      refine hr_ist C hR aM_102 hi2 e2 dX12_qGoesOnTest_113 (fun H locs hR => ?_)
      refine lv_aload_n C.1 C.2.1 dX12_qGoesOnTest_114 rfl (lv_at hl 0 rfl) ?_
      refine lv_dup C.1 C.2.1 dX12_qGoesOnTest_115 rfl ?_
      refine ho_getI C cf12 fM_355 hR aM_0 dX12_qGoesOnTest_116 ?_
      refine lv_iconst (v := (1 : Int32)) C.1 C.2.1 dX12_qGoesOnTest_119 (by decide) ?_
      refine lv_iadd C.1 C.2.1 dX12_qGoesOnTest_120 ?_
      obtain ⟨S3, e3, h⟩ := le1_ok h
      refine hr_putI C cf12 fM_355 hR aM_0 e3 dX12_qGoesOnTest_121 (fun H locs hR => ?_)
      refine lv_iconst (v := (1 : Int32)) C.1 C.2.1 dX12_qGoesOnTest_124 (by decide) ?_
      exact ho_zret C hR (Or.inr rfl) h dX12_qGoesOnTest_125
    · replace h := if_f h hc
      refine lv_aload_n C.1 C.2.1 dX12_qGoesOnTest_96 rfl (lv_at hl 0 rfl) ?_
      obtain ⟨S4, h4, h⟩ := ob_ok h
      refine hr_Vv (S' := S4) (As := []) (rest := []) C cf12 (c_X12_qDrops l E _ _ h4) yv_X12_qDrops lk_RX12_613 rfl aM_0 rfl rfl hl.1 (Nat.le_of_ble_eq_true rfl) (by decide) (by decide) hR (ho_A hR) dX12_qGoesOnTest_97 (fun H locs hR => ?_)
      refine lv_goto (tgt := 87) C.1 C.2.1 dX12_qGoesOnTest_100 (by decide) ?_
      exact ih S4 h _ _ _ hR (lv_sub hl [0] rfl)
def f_X12_qGoesOnTest_76 (S : Hp) : Option (Int32 × Hp) :=
  ob2 (f_X12_takes 83 3 S) (fun r1 S1 => if r1 = 0 then ob2 (f_X12_takes 84 2 S1) (fun r2 S2 => if r2 = 0 then if (S2.1 0 5) = 0 then ob2 (f_X12_qHasSquare S2) (fun r3 S3 => if r3 = 0 then some ((0 : Int32), S3) else ob (f_X12_fail (1 : Int32) (S3.1 0 2) S3) (fun S4 => some ((0 : Int32), S4))) else some ((0 : Int32), S2) else f_X12_qGoesOnTest_137 5000 S2) else f_X12_qGoesOnTest_87 5000 S1)
set_option maxHeartbeats 4000000 in
set_option maxRecDepth 100000 in
theorem w_X12_qGoesOnTest_76 {p : Program} {l : Launch} {e : Env} {s : State} {m : MethodId} {args : Array Value} {below : List Frame} {meth : Method} {c : Code} {E : Ev} {S0 : Hp} {r : (Int32 × Hp)} (C : ho_I p s m args meth c RX12 cX12_qGoesOnTest 1 (some .boolean)) :
    ∀ (S : Hp), f_X12_qGoesOnTest_76 S = some r → ho_G p l e s m args below meth c yM E S0 3 1 (some (.int r.1), r.2) 76 [(0, .ref (E.2.1 0))] [] S := by
  intro S h H locs ls hR hl
  unfold f_X12_qGoesOnTest_76 at h
  refine lv_aload_n C.1 C.2.1 dX12_qGoesOnTest_76 rfl (lv_at hl 0 rfl) ?_
  refine lv_aload_n C.1 C.2.1 dX12_qGoesOnTest_77 rfl (lv_at hl 0 rfl) ?_
  refine ho_getR (a' := 83) C cf12 fM_198 hR aM_0 rfl dX12_qGoesOnTest_78 ?_
  obtain ⟨r1, S1, h1, h⟩ := ob2_ok h
  refine hr_Vi (v := r1) (S' := S1) (As := [.ref (E.2.1 83)]) (rest := []) C cf12 (c_X12_takes l E 83 3 aM_83 _ _ h1) yv_X12_takes lk_RX12_291 rfl aM_0 rfl rfl hl.1 (Nat.le_of_ble_eq_true rfl) (by decide) (by decide) hR (ho_A hR) dX12_qGoesOnTest_81 (fun H locs hR => ?_)
  refine lv_if_eq (tgt := 126) C.1 C.2.1 dX12_qGoesOnTest_84 (by decide) (fun hc => ?_) (fun hc => ?_)
  · replace h := if_t h hc
    refine lv_aload_n C.1 C.2.1 dX12_qGoesOnTest_126 rfl (lv_at hl 0 rfl) ?_
    refine lv_aload_n C.1 C.2.1 dX12_qGoesOnTest_127 rfl (lv_at hl 0 rfl) ?_
    refine ho_getR (a' := 84) C cf12 fM_201 hR aM_0 rfl dX12_qGoesOnTest_128 ?_
    obtain ⟨r2, S2, h2, h⟩ := ob2_ok h
    refine hr_Vi (v := r2) (S' := S2) (As := [.ref (E.2.1 84)]) (rest := []) C cf12 (c_X12_takes l E 84 2 aM_84 _ _ h2) yv_X12_takes lk_RX12_291 rfl aM_0 rfl rfl hl.1 (Nat.le_of_ble_eq_true rfl) (by decide) (by decide) hR (ho_A hR) dX12_qGoesOnTest_131 (fun H locs hR => ?_)
    refine lv_if_eq (tgt := 185) C.1 C.2.1 dX12_qGoesOnTest_134 (by decide) (fun hc => ?_) (fun hc => ?_)
    · replace h := if_t h hc
      refine lv_aload_n C.1 C.2.1 dX12_qGoesOnTest_185 rfl (lv_at hl 0 rfl) ?_
      refine ho_getI C cf12 fM_264 hR aM_0 dX12_qGoesOnTest_186 ?_
      refine lv_if_ne (tgt := 208) C.1 C.2.1 dX12_qGoesOnTest_189 (by decide) (fun hc => ?_) (fun hc => ?_)
      · replace h := if_f h hc
        refine lv_iconst (v := (0 : Int32)) C.1 C.2.1 dX12_qGoesOnTest_208 (by decide) ?_
        exact ho_zret C hR (Or.inl rfl) h dX12_qGoesOnTest_209
      · replace h := if_t h hc
        refine lv_aload_n C.1 C.2.1 dX12_qGoesOnTest_192 rfl (lv_at hl 0 rfl) ?_
        obtain ⟨r3, S3, h3, h⟩ := ob2_ok h
        refine hr_Vi (v := r3) (S' := S3) (As := []) (rest := []) C cf12 (c_X12_qHasSquare l E _ _ h3) yv_X12_qHasSquare lk_RX12_658 rfl aM_0 rfl rfl hl.1 (Nat.le_of_ble_eq_true rfl) (by decide) (by decide) hR (ho_A hR) dX12_qGoesOnTest_193 (fun H locs hR => ?_)
        refine lv_if_eq (tgt := 208) C.1 C.2.1 dX12_qGoesOnTest_196 (by decide) (fun hc => ?_) (fun hc => ?_)
        · replace h := if_t h hc
          refine lv_iconst (v := (0 : Int32)) C.1 C.2.1 dX12_qGoesOnTest_208 (by decide) ?_
          exact ho_zret C hR (Or.inl rfl) h dX12_qGoesOnTest_209
        · replace h := if_f h hc
          refine lv_aload_n C.1 C.2.1 dX12_qGoesOnTest_199 rfl (lv_at hl 0 rfl) ?_
          refine lv_iconst (v := (1 : Int32)) C.1 C.2.1 dX12_qGoesOnTest_200 (by decide) ?_
          refine lv_aload_n C.1 C.2.1 dX12_qGoesOnTest_201 rfl (lv_at hl 0 rfl) ?_
          refine ho_getI C cf12 fM_270 hR aM_0 dX12_qGoesOnTest_202 ?_
          obtain ⟨S4, h4, h⟩ := ob_ok h
          refine hr_Vv (S' := S4) (As := [.int (1 : Int32), .int (S3.1 0 2)]) (rest := []) C cf12 (c_X12_fail l E (1 : Int32) (S3.1 0 2) _ _ h4) yv_X12_fail lk_RX12_294 rfl aM_0 rfl rfl hl.1 (Nat.le_of_ble_eq_true rfl) (by decide) (by decide) hR (ho_A hR) dX12_qGoesOnTest_205 (fun H locs hR => ?_)
          refine lv_iconst (v := (0 : Int32)) C.1 C.2.1 dX12_qGoesOnTest_208 (by decide) ?_
          exact ho_zret C hR (Or.inl rfl) h dX12_qGoesOnTest_209
    · replace h := if_f h hc
      exact w_X12_qGoesOnTest_137 C 5000 S2 h _ _ _ hR (lv_sub hl [0] rfl)
  · replace h := if_f h hc
    exact w_X12_qGoesOnTest_87 C 5000 S1 h _ _ _ hR (lv_sub hl [0] rfl)
def f_X12_qGoesOnTest_33 (K0 : Hp → Option (Int32 × Hp)) : Nat → Hp → Option (Int32 × Hp)
  | 0, _ => none
  | k + 1, S => ob2 (f_X12_qIsOn (25 : Int32) S) (fun r1 S1 => if r1 = 0 then ob (f_X12_qDrops S1) (fun S5 => f_X12_qGoesOnTest_33 K0 k S5) else le1 (ho_sI S1 0 102 ((S1.1 0 102) - (1 : Int32))) (fun S2 => le1 (ho_sI S2 0 103 ((S2.1 0 103) - (1 : Int32))) (fun S3 => ob (f_X12_qDropsNots S3) (fun S4 => K0 S4))))
set_option maxHeartbeats 4000000 in
set_option maxRecDepth 100000 in
theorem w_X12_qGoesOnTest_33 {p : Program} {l : Launch} {e : Env} {s : State} {m : MethodId} {args : Array Value} {below : List Frame} {meth : Method} {c : Code} {E : Ev} {S0 : Hp} {r : (Int32 × Hp)} (C : ho_I p s m args meth c RX12 cX12_qGoesOnTest 1 (some .boolean)) (K0 : Hp → Option (Int32 × Hp)) (hK0 : ∀ (S : Hp), K0 S = some r → ho_G p l e s m args below meth c yM E S0 3 1 (some (.int r.1), r.2) 0 [(0, .ref (E.2.1 0))] [] S) :
    ∀ (k : Nat) (S : Hp), f_X12_qGoesOnTest_33 K0 k S = some r → ho_G p l e s m args below meth c yM E S0 3 1 (some (.int r.1), r.2) 33 [(0, .ref (E.2.1 0))] [] S := by
  intro k
  induction k with
  | zero =>
    intro S h
    exact absurd (show (none : Option (Int32 × Hp)) = some r from h) (by simp)
  | succ k ih =>
    intro S h H locs ls hR hl
    rw [f_X12_qGoesOnTest_33] at h
    refine lv_aload_n C.1 C.2.1 dX12_qGoesOnTest_33 rfl (lv_at hl 0 rfl) ?_
    refine lv_bipush (v := (25 : Int32)) C.1 C.2.1 dX12_qGoesOnTest_34 (by decide) ?_
    obtain ⟨r1, S1, h1, h⟩ := ob2_ok h
    refine hr_Vi (v := r1) (S' := S1) (As := [.int (25 : Int32)]) (rest := []) C cf12 (c_X12_qIsOn l E (25 : Int32) _ _ h1) yv_X12_qIsOn lk_RX12_640 rfl aM_0 rfl rfl hl.1 (Nat.le_of_ble_eq_true rfl) (by decide) (by decide) hR (ho_A hR) dX12_qGoesOnTest_36 (fun H locs hR => ?_)
    refine lv_if_ne (tgt := 49) C.1 C.2.1 dX12_qGoesOnTest_39 (by decide) (fun hc => ?_) (fun hc => ?_)
    · replace h := if_f h hc
      refine lv_aload_n C.1 C.2.1 dX12_qGoesOnTest_49 rfl (lv_at hl 0 rfl) ?_
      refine lv_dup C.1 C.2.1 dX12_qGoesOnTest_50 rfl ?_
      refine ho_getI C cf12 fM_355 hR aM_0 dX12_qGoesOnTest_51 ?_
      refine lv_iconst (v := (1 : Int32)) C.1 C.2.1 dX12_qGoesOnTest_54 (by decide) ?_
      refine lv_isub C.1 C.2.1 dX12_qGoesOnTest_55 ?_
      obtain ⟨S2, e2, h⟩ := le1_ok h
      refine hr_putI C cf12 fM_355 hR aM_0 e2 dX12_qGoesOnTest_56 (fun H locs hR => ?_)
      refine lv_aload_n C.1 C.2.1 dX12_qGoesOnTest_59 rfl (lv_at hl 0 rfl) ?_
      refine lv_dup C.1 C.2.1 dX12_qGoesOnTest_60 rfl ?_
      refine ho_getI C cf12 fM_358 hR aM_0 dX12_qGoesOnTest_61 ?_
      refine lv_iconst (v := (1 : Int32)) C.1 C.2.1 dX12_qGoesOnTest_64 (by decide) ?_
      refine lv_isub C.1 C.2.1 dX12_qGoesOnTest_65 ?_
      obtain ⟨S3, e3, h⟩ := le1_ok h
      refine hr_putI C cf12 fM_358 hR aM_0 e3 dX12_qGoesOnTest_66 (fun H locs hR => ?_)
      refine lv_aload_n C.1 C.2.1 dX12_qGoesOnTest_69 rfl (lv_at hl 0 rfl) ?_
      obtain ⟨S4, h4, h⟩ := ob_ok h
      refine hr_Vv (S' := S4) (As := []) (rest := []) C cf12 (c_X12_qDropsNots l E _ _ h4) yv_X12_qDropsNots lk_RX12_652 rfl aM_0 rfl rfl hl.1 (Nat.le_of_ble_eq_true rfl) (by decide) (by decide) hR (ho_A hR) dX12_qGoesOnTest_70 (fun H locs hR => ?_)
      refine lv_goto (tgt := 0) C.1 C.2.1 dX12_qGoesOnTest_73 (by decide) ?_
      exact hK0 S4 h _ _ _ hR (lv_sub hl [0] rfl)
    · replace h := if_t h hc
      refine lv_aload_n C.1 C.2.1 dX12_qGoesOnTest_42 rfl (lv_at hl 0 rfl) ?_
      obtain ⟨S5, h5, h⟩ := ob_ok h
      refine hr_Vv (S' := S5) (As := []) (rest := []) C cf12 (c_X12_qDrops l E _ _ h5) yv_X12_qDrops lk_RX12_613 rfl aM_0 rfl rfl hl.1 (Nat.le_of_ble_eq_true rfl) (by decide) (by decide) hR (ho_A hR) dX12_qGoesOnTest_43 (fun H locs hR => ?_)
      refine lv_goto (tgt := 33) C.1 C.2.1 dX12_qGoesOnTest_46 (by decide) ?_
      exact ih S5 h _ _ _ hR (lv_sub hl [0] rfl)
def f_X12_qGoesOnTest_0 : Nat → Hp → Option (Int32 × Hp)
  | 0, _ => none
  | k + 1, S => if (S.1 0 5) = 0 then ob2 (f_X12_look0 S) (fun r1 S1 => if r1 = (93 : Int32) then ob2 (f_X12_qHasSquare S1) (fun r2 S2 => if r2 = 0 then f_X12_qGoesOnTest_76 S2 else le1 (ho_sI S2 0 2 ((S2.1 0 2) + (1 : Int32))) (fun S3 => f_X12_qGoesOnTest_33 (f_X12_qGoesOnTest_0 k) 5000 S3)) else f_X12_qGoesOnTest_76 S1) else f_X12_qGoesOnTest_76 S
set_option maxHeartbeats 4000000 in
set_option maxRecDepth 100000 in
theorem w_X12_qGoesOnTest_0 {p : Program} {l : Launch} {e : Env} {s : State} {m : MethodId} {args : Array Value} {below : List Frame} {meth : Method} {c : Code} {E : Ev} {S0 : Hp} {r : (Int32 × Hp)} (C : ho_I p s m args meth c RX12 cX12_qGoesOnTest 1 (some .boolean)) :
    ∀ (k : Nat) (S : Hp), f_X12_qGoesOnTest_0 k S = some r → ho_G p l e s m args below meth c yM E S0 3 1 (some (.int r.1), r.2) 0 [(0, .ref (E.2.1 0))] [] S := by
  intro k
  induction k with
  | zero =>
    intro S h
    exact absurd (show (none : Option (Int32 × Hp)) = some r from h) (by simp)
  | succ k ih =>
    intro S h H locs ls hR hl
    rw [f_X12_qGoesOnTest_0] at h
    refine lv_aload_n C.1 C.2.1 dX12_qGoesOnTest_0 rfl (lv_at hl 0 rfl) ?_
    refine ho_getI C cf12 fM_264 hR aM_0 dX12_qGoesOnTest_1 ?_
    refine lv_if_ne (tgt := 76) C.1 C.2.1 dX12_qGoesOnTest_4 (by decide) (fun hc => ?_) (fun hc => ?_)
    · replace h := if_f h hc
      exact w_X12_qGoesOnTest_76 C S h _ _ _ hR (lv_sub hl [0] rfl)
    · replace h := if_t h hc
      refine lv_aload_n C.1 C.2.1 dX12_qGoesOnTest_7 rfl (lv_at hl 0 rfl) ?_
      obtain ⟨r1, S1, h1, h⟩ := ob2_ok h
      refine hr_Vi (v := r1) (S' := S1) (As := []) (rest := []) C cf12 (c_X12_look0 l E _ _ h1) yv_X12_look0 lk_RX12_276 rfl aM_0 rfl rfl hl.1 (Nat.le_of_ble_eq_true rfl) (by decide) (by decide) hR (ho_A hR) dX12_qGoesOnTest_8 (fun H locs hR => ?_)
      refine lv_bipush (v := (93 : Int32)) C.1 C.2.1 dX12_qGoesOnTest_11 (by decide) ?_
      refine lv_icmp_ne (tgt := 76) C.1 C.2.1 dX12_qGoesOnTest_13 (by decide) (fun hc => ?_) (fun hc => ?_)
      · replace h := if_f h hc
        exact w_X12_qGoesOnTest_76 C S1 h _ _ _ hR (lv_sub hl [0] rfl)
      · replace h := if_t h hc
        refine lv_aload_n C.1 C.2.1 dX12_qGoesOnTest_16 rfl (lv_at hl 0 rfl) ?_
        obtain ⟨r2, S2, h2, h⟩ := ob2_ok h
        refine hr_Vi (v := r2) (S' := S2) (As := []) (rest := []) C cf12 (c_X12_qHasSquare l E _ _ h2) yv_X12_qHasSquare lk_RX12_658 rfl aM_0 rfl rfl hl.1 (Nat.le_of_ble_eq_true rfl) (by decide) (by decide) hR (ho_A hR) dX12_qGoesOnTest_17 (fun H locs hR => ?_)
        refine lv_if_eq (tgt := 76) C.1 C.2.1 dX12_qGoesOnTest_20 (by decide) (fun hc => ?_) (fun hc => ?_)
        · replace h := if_t h hc
          exact w_X12_qGoesOnTest_76 C S2 h _ _ _ hR (lv_sub hl [0] rfl)
        · replace h := if_f h hc
          refine lv_aload_n C.1 C.2.1 dX12_qGoesOnTest_23 rfl (lv_at hl 0 rfl) ?_
          refine lv_dup C.1 C.2.1 dX12_qGoesOnTest_24 rfl ?_
          refine ho_getI C cf12 fM_270 hR aM_0 dX12_qGoesOnTest_25 ?_
          refine lv_iconst (v := (1 : Int32)) C.1 C.2.1 dX12_qGoesOnTest_28 (by decide) ?_
          refine lv_iadd C.1 C.2.1 dX12_qGoesOnTest_29 ?_
          obtain ⟨S3, e3, h⟩ := le1_ok h
          refine hr_putI C cf12 fM_270 hR aM_0 e3 dX12_qGoesOnTest_30 (fun H locs hR => ?_)
          exact w_X12_qGoesOnTest_33 C (f_X12_qGoesOnTest_0 k) ih 5000 S3 h _ _ _ hR (lv_sub hl [0] rfl)
def f_X12_qGoesOnTest (S : Hp) : Option (Int32 × Hp) :=
  f_X12_qGoesOnTest_0 5000 S
set_option maxHeartbeats 4000000 in
set_option maxRecDepth 100000 in
theorem c_X12_qGoesOnTest (l : Launch) (E : Ev) (S : Hp) (r : (Int32 × Hp)) (h : f_X12_qGoesOnTest S = some r) : ho_M l yM E yX12_qGoesOnTest cX12_qGoesOnTest 1 (some .boolean) 3 [.ref (E.2.1 0)] S (some (.int r.1), r.2) := by
  refine ho_in (by decide) (Nat.le_of_ble_eq_true rfl) ?_
  intro p e s m args below meth c C hR ls hl
  have C : ho_I p s m args meth c RX12 cX12_qGoesOnTest 1 (some .boolean) := C
  have hl : lv_has ls 1 [(0, .ref (E.2.1 0))] := hl
  unfold f_X12_qGoesOnTest at h
  exact w_X12_qGoesOnTest_0 C 5000 S h _ _ _ hR (lv_sub hl [0] rfl)
theorem dX12_qTest_0 : decode cX12_qTest 0 = .ok (.iconst 1, 1) := by decide +kernel
theorem dX12_qTest_1 : decode cX12_qTest 1 = .ok (.istore_n 1, 1) := by decide +kernel
theorem dX12_qTest_2 : decode cX12_qTest 2 = .ok (.iload_n 1, 1) := by decide +kernel
theorem dX12_qTest_3 : decode cX12_qTest 3 = .ok (.ifCond .eq 107, 3) := by decide +kernel
theorem dX12_qTest_6 : decode cX12_qTest 6 = .ok (.aload_n 0, 1) := by decide +kernel
theorem dX12_qTest_7 : decode cX12_qTest 7 = .ok (.getfield 264, 3) := by decide +kernel
theorem dX12_qTest_10 : decode cX12_qTest 10 = .ok (.ifCond .ne 100, 3) := by decide +kernel
theorem dX12_qTest_13 : decode cX12_qTest 13 = .ok (.aload_n 0, 1) := by decide +kernel
theorem dX12_qTest_14 : decode cX12_qTest 14 = .ok (.invokevirtual 276, 3) := by decide +kernel
theorem dX12_qTest_17 : decode cX12_qTest 17 = .ok (.istore_n 2, 1) := by decide +kernel
theorem dX12_qTest_18 : decode cX12_qTest 18 = .ok (.iload_n 2, 1) := by decide +kernel
theorem dX12_qTest_19 : decode cX12_qTest 19 = .ok (.bipush 91, 2) := by decide +kernel
theorem dX12_qTest_21 : decode cX12_qTest 21 = .ok (.if_icmp .ne 26, 3) := by decide +kernel
theorem dX12_qTest_24 : decode cX12_qTest 24 = .ok (.aload_n 0, 1) := by decide +kernel
theorem dX12_qTest_25 : decode cX12_qTest 25 = .ok (.bipush 25, 2) := by decide +kernel
theorem dX12_qTest_27 : decode cX12_qTest 27 = .ok (.aload_n 0, 1) := by decide +kernel
theorem dX12_qTest_28 : decode cX12_qTest 28 = .ok (.getfield 270, 3) := by decide +kernel
theorem dX12_qTest_31 : decode cX12_qTest 31 = .ok (.invokevirtual 625, 3) := by decide +kernel
theorem dX12_qTest_34 : decode cX12_qTest 34 = .ok (.aload_n 0, 1) := by decide +kernel
theorem dX12_qTest_35 : decode cX12_qTest 35 = .ok (.dup, 1) := by decide +kernel
theorem dX12_qTest_36 : decode cX12_qTest 36 = .ok (.getfield 270, 3) := by decide +kernel
theorem dX12_qTest_39 : decode cX12_qTest 39 = .ok (.iconst 1, 1) := by decide +kernel
theorem dX12_qTest_40 : decode cX12_qTest 40 = .ok (.iadd, 1) := by decide +kernel
theorem dX12_qTest_41 : decode cX12_qTest 41 = .ok (.putfield 270, 3) := by decide +kernel
theorem dX12_qTest_44 : decode cX12_qTest 44 = .ok (.goto (-42), 3) := by decide +kernel
theorem dX12_qTest_47 : decode cX12_qTest 47 = .ok (.aload_n 0, 1) := by decide +kernel
theorem dX12_qTest_48 : decode cX12_qTest 48 = .ok (.aload_n 0, 1) := by decide +kernel
theorem dX12_qTest_49 : decode cX12_qTest 49 = .ok (.getfield 195, 3) := by decide +kernel
theorem dX12_qTest_52 : decode cX12_qTest 52 = .ok (.invokevirtual 287, 3) := by decide +kernel
theorem dX12_qTest_55 : decode cX12_qTest 55 = .ok (.ifCond .eq 24, 3) := by decide +kernel
theorem dX12_qTest_58 : decode cX12_qTest 58 = .ok (.aload_n 0, 1) := by decide +kernel
theorem dX12_qTest_59 : decode cX12_qTest 59 = .ok (.bipush 12, 2) := by decide +kernel
theorem dX12_qTest_61 : decode cX12_qTest 61 = .ok (.aload_n 0, 1) := by decide +kernel
theorem dX12_qTest_62 : decode cX12_qTest 62 = .ok (.getfield 270, 3) := by decide +kernel
theorem dX12_qTest_65 : decode cX12_qTest 65 = .ok (.invokevirtual 625, 3) := by decide +kernel
theorem dX12_qTest_68 : decode cX12_qTest 68 = .ok (.aload_n 0, 1) := by decide +kernel
theorem dX12_qTest_69 : decode cX12_qTest 69 = .ok (.aload_n 0, 1) := by decide +kernel
theorem dX12_qTest_70 : decode cX12_qTest 70 = .ok (.getfield 195, 3) := by decide +kernel
theorem dX12_qTest_73 : decode cX12_qTest 73 = .ok (.invokevirtual 330, 3) := by decide +kernel
theorem dX12_qTest_76 : decode cX12_qTest 76 = .ok (.goto (-74), 3) := by decide +kernel
theorem dX12_qTest_79 : decode cX12_qTest 79 = .ok (.aload_n 0, 1) := by decide +kernel
theorem dX12_qTest_80 : decode cX12_qTest 80 = .ok (.invokevirtual 649, 3) := by decide +kernel
theorem dX12_qTest_83 : decode cX12_qTest 83 = .ok (.aload_n 0, 1) := by decide +kernel
theorem dX12_qTest_84 : decode cX12_qTest 84 = .ok (.invokevirtual 652, 3) := by decide +kernel
theorem dX12_qTest_87 : decode cX12_qTest 87 = .ok (.aload_n 0, 1) := by decide +kernel
theorem dX12_qTest_88 : decode cX12_qTest 88 = .ok (.getfield 264, 3) := by decide +kernel
theorem dX12_qTest_91 : decode cX12_qTest 91 = .ok (.ifCond .ne 14, 3) := by decide +kernel
theorem dX12_qTest_94 : decode cX12_qTest 94 = .ok (.aload_n 0, 1) := by decide +kernel
theorem dX12_qTest_95 : decode cX12_qTest 95 = .ok (.invokevirtual 655, 3) := by decide +kernel
theorem dX12_qTest_98 : decode cX12_qTest 98 = .ok (.ifCond .eq 7, 3) := by decide +kernel
theorem dX12_qTest_101 : decode cX12_qTest 101 = .ok (.iconst 1, 1) := by decide +kernel
theorem dX12_qTest_102 : decode cX12_qTest 102 = .ok (.goto 4, 3) := by decide +kernel
theorem dX12_qTest_105 : decode cX12_qTest 105 = .ok (.iconst 0, 1) := by decide +kernel
theorem dX12_qTest_106 : decode cX12_qTest 106 = .ok (.istore_n 1, 1) := by decide +kernel
theorem dX12_qTest_107 : decode cX12_qTest 107 = .ok (.goto (-105), 3) := by decide +kernel
theorem dX12_qTest_110 : decode cX12_qTest 110 = .ok (.aload_n 0, 1) := by decide +kernel
theorem dX12_qTest_111 : decode cX12_qTest 111 = .ok (.getfield 264, 3) := by decide +kernel
theorem dX12_qTest_114 : decode cX12_qTest 114 = .ok (.ifCond .ne 17, 3) := by decide +kernel
theorem dX12_qTest_117 : decode cX12_qTest 117 = .ok (.aload_n 0, 1) := by decide +kernel
theorem dX12_qTest_118 : decode cX12_qTest 118 = .ok (.getfield 355, 3) := by decide +kernel
theorem dX12_qTest_121 : decode cX12_qTest 121 = .ok (.ifCond .le 10, 3) := by decide +kernel
theorem dX12_qTest_124 : decode cX12_qTest 124 = .ok (.aload_n 0, 1) := by decide +kernel
theorem dX12_qTest_125 : decode cX12_qTest 125 = .ok (.invokevirtual 613, 3) := by decide +kernel
theorem dX12_qTest_128 : decode cX12_qTest 128 = .ok (.goto (-18), 3) := by decide +kernel
theorem dX12_qTest_131 : decode cX12_qTest 131 = .ok (.return_, 1) := by decide +kernel
def f_X12_qTest_110 : Nat → Hp → Option Hp
  | 0, _ => none
  | k + 1, S => if (S.1 0 5) = 0 then if (S.1 0 102) ≤ 0 then some S else ob (f_X12_qDrops S) (fun S1 => f_X12_qTest_110 k S1) else some S
set_option maxHeartbeats 4000000 in
set_option maxRecDepth 100000 in
theorem w_X12_qTest_110 {p : Program} {l : Launch} {e : Env} {s : State} {m : MethodId} {args : Array Value} {below : List Frame} {meth : Method} {c : Code} {E : Ev} {S0 : Hp} {r : Hp} (C : ho_I p s m args meth c RX12 cX12_qTest 3 none) :
    ∀ (k : Nat) (S : Hp), f_X12_qTest_110 k S = some r → ho_G p l e s m args below meth c yM E S0 8 3 (none, r) 110 [(0, .ref (E.2.1 0))] [] S := by
  intro k
  induction k with
  | zero =>
    intro S h
    exact absurd (show (none : Option Hp) = some r from h) (by simp)
  | succ k ih =>
    intro S h H locs ls hR hl
    rw [f_X12_qTest_110] at h
    refine lv_aload_n C.1 C.2.1 dX12_qTest_110 rfl (lv_at hl 0 rfl) ?_
    refine ho_getI C cf12 fM_264 hR aM_0 dX12_qTest_111 ?_
    refine lv_if_ne (tgt := 131) C.1 C.2.1 dX12_qTest_114 (by decide) (fun hc => ?_) (fun hc => ?_)
    · replace h := if_f h hc
      exact ho_vret C hR h dX12_qTest_131
    · replace h := if_t h hc
      refine lv_aload_n C.1 C.2.1 dX12_qTest_117 rfl (lv_at hl 0 rfl) ?_
      refine ho_getI C cf12 fM_355 hR aM_0 dX12_qTest_118 ?_
      refine lv_if_le (tgt := 131) C.1 C.2.1 dX12_qTest_121 (by decide) (fun hc => ?_) (fun hc => ?_)
      · replace h := if_t h hc
        exact ho_vret C hR h dX12_qTest_131
      · replace h := if_f h hc
        refine lv_aload_n C.1 C.2.1 dX12_qTest_124 rfl (lv_at hl 0 rfl) ?_
        obtain ⟨S1, h1, h⟩ := ob_ok h
        refine hr_Vv (S' := S1) (As := []) (rest := []) C cf12 (c_X12_qDrops l E _ _ h1) yv_X12_qDrops lk_RX12_613 rfl aM_0 rfl rfl hl.1 (Nat.le_of_ble_eq_true rfl) (by decide) (by decide) hR (ho_A hR) dX12_qTest_125 (fun H locs hR => ?_)
        refine lv_goto (tgt := 110) C.1 C.2.1 dX12_qTest_128 (by decide) ?_
        exact ih S1 h _ _ _ hR (lv_sub hl [0] rfl)
def f_X12_qTest_106 (K2 : Int32 → Hp → Option Hp) (z0 : Int32) (S : Hp) : Option Hp :=
  K2 z0 S
set_option maxHeartbeats 4000000 in
set_option maxRecDepth 100000 in
theorem w_X12_qTest_106 {p : Program} {l : Launch} {e : Env} {s : State} {m : MethodId} {args : Array Value} {below : List Frame} {meth : Method} {c : Code} {E : Ev} {S0 : Hp} {r : Hp} (C : ho_I p s m args meth c RX12 cX12_qTest 3 none) (K2 : Int32 → Hp → Option Hp) (hK2 : ∀ (y1 : Int32) (S : Hp), K2 y1 S = some r → ho_G p l e s m args below meth c yM E S0 8 3 (none, r) 2 [(0, .ref (E.2.1 0)), (1, .int y1)] [] S) :
    ∀ (z0 : Int32) (S : Hp), f_X12_qTest_106 K2 z0 S = some r → ho_G p l e s m args below meth c yM E S0 8 3 (none, r) 106 [(0, .ref (E.2.1 0))] [.int z0] S := by
  intro z0 S h H locs ls hR hl
  unfold f_X12_qTest_106 at h
  refine lv_istore_n (lv' := [(1, .int z0), (0, .ref (E.2.1 0))]) C.1 C.2.1 dX12_qTest_106 rfl hl (by decide) rfl (fun ls hl => ?_)
  refine lv_goto (tgt := 2) C.1 C.2.1 dX12_qTest_107 (by decide) ?_
  exact hK2 z0 S h _ _ _ hR (lv_sub hl [1, 0] rfl)
def f_X12_qTest_105 (K2 : Int32 → Hp → Option Hp) (S : Hp) : Option Hp :=
  f_X12_qTest_106 K2 (0 : Int32) S
set_option maxHeartbeats 4000000 in
set_option maxRecDepth 100000 in
theorem w_X12_qTest_105 {p : Program} {l : Launch} {e : Env} {s : State} {m : MethodId} {args : Array Value} {below : List Frame} {meth : Method} {c : Code} {E : Ev} {S0 : Hp} {r : Hp} (C : ho_I p s m args meth c RX12 cX12_qTest 3 none) (K2 : Int32 → Hp → Option Hp) (hK2 : ∀ (y1 : Int32) (S : Hp), K2 y1 S = some r → ho_G p l e s m args below meth c yM E S0 8 3 (none, r) 2 [(0, .ref (E.2.1 0)), (1, .int y1)] [] S) :
    ∀ (S : Hp), f_X12_qTest_105 K2 S = some r → ho_G p l e s m args below meth c yM E S0 8 3 (none, r) 105 [(0, .ref (E.2.1 0))] [] S := by
  intro S h H locs ls hR hl
  unfold f_X12_qTest_105 at h
  refine lv_iconst (v := (0 : Int32)) C.1 C.2.1 dX12_qTest_105 (by decide) ?_
  exact w_X12_qTest_106 C K2 hK2 (0 : Int32) S h _ _ _ hR (lv_sub hl [0] rfl)
def f_X12_qTest_2 : Nat → Int32 → Hp → Option Hp
  | 0, _, _ => none
  | k + 1, x1, S => if x1 = 0 then f_X12_qTest_110 5000 S else if (S.1 0 5) = 0 then ob2 (f_X12_look0 S) (fun r1 S1 => if r1 = (91 : Int32) then ob (f_X12_qOpens (25 : Int32) (S1.1 0 2) S1) (fun S8 => le1 (ho_sI S8 0 2 ((S8.1 0 2) + (1 : Int32))) (fun S9 => f_X12_qTest_2 k x1 S9)) else ob2 (f_X12_isHere 82 3 S1) (fun r2 S2 => if r2 = 0 then ob (f_X12_qFact S2) (fun S3 => ob (f_X12_qDropsNots S3) (fun S4 => if (S4.1 0 5) = 0 then ob2 (f_X12_qGoesOnTest S4) (fun r5 S5 => if r5 = 0 then f_X12_qTest_105 (f_X12_qTest_2 k) S5 else f_X12_qTest_106 (f_X12_qTest_2 k) (1 : Int32) S5) else f_X12_qTest_105 (f_X12_qTest_2 k) S4)) else ob (f_X12_qOpens (12 : Int32) (S2.1 0 2) S2) (fun S6 => ob (f_X12_asks 82 3 S6) (fun S7 => f_X12_qTest_2 k x1 S7)))) else f_X12_qTest_110 5000 S
set_option maxHeartbeats 4000000 in
set_option maxRecDepth 100000 in
theorem w_X12_qTest_2 {p : Program} {l : Launch} {e : Env} {s : State} {m : MethodId} {args : Array Value} {below : List Frame} {meth : Method} {c : Code} {E : Ev} {S0 : Hp} {r : Hp} (C : ho_I p s m args meth c RX12 cX12_qTest 3 none) :
    ∀ (k : Nat) (x1 : Int32) (S : Hp), f_X12_qTest_2 k x1 S = some r → ho_G p l e s m args below meth c yM E S0 8 3 (none, r) 2 [(0, .ref (E.2.1 0)), (1, .int x1)] [] S := by
  intro k
  induction k with
  | zero =>
    intro x1 S h
    exact absurd (show (none : Option Hp) = some r from h) (by simp)
  | succ k ih =>
    intro x1 S h H locs ls hR hl
    rw [f_X12_qTest_2] at h
    refine lv_iload_n C.1 C.2.1 dX12_qTest_2 rfl (lv_at hl 1 rfl) ?_
    refine lv_if_eq (tgt := 110) C.1 C.2.1 dX12_qTest_3 (by decide) (fun hc => ?_) (fun hc => ?_)
    · replace h := if_t h hc
      exact w_X12_qTest_110 C 5000 S h _ _ _ hR (lv_sub hl [0] rfl)
    · replace h := if_f h hc
      refine lv_aload_n C.1 C.2.1 dX12_qTest_6 rfl (lv_at hl 0 rfl) ?_
      refine ho_getI C cf12 fM_264 hR aM_0 dX12_qTest_7 ?_
      refine lv_if_ne (tgt := 110) C.1 C.2.1 dX12_qTest_10 (by decide) (fun hc => ?_) (fun hc => ?_)
      · replace h := if_f h hc
        exact w_X12_qTest_110 C 5000 S h _ _ _ hR (lv_sub hl [0] rfl)
      · replace h := if_t h hc
        refine lv_aload_n C.1 C.2.1 dX12_qTest_13 rfl (lv_at hl 0 rfl) ?_
        obtain ⟨r1, S1, h1, h⟩ := ob2_ok h
        refine hr_Vi (v := r1) (S' := S1) (As := []) (rest := []) C cf12 (c_X12_look0 l E _ _ h1) yv_X12_look0 lk_RX12_276 rfl aM_0 rfl rfl hl.1 (Nat.le_of_ble_eq_true rfl) (by decide) (by decide) hR (ho_A hR) dX12_qTest_14 (fun H locs hR => ?_)
        refine lv_istore_n (lv' := [(2, .int r1), (0, .ref (E.2.1 0)), (1, .int x1)]) C.1 C.2.1 dX12_qTest_17 rfl hl (by decide) rfl (fun ls hl => ?_)
        refine lv_iload_n C.1 C.2.1 dX12_qTest_18 rfl (lv_at hl 0 rfl) ?_
        refine lv_bipush (v := (91 : Int32)) C.1 C.2.1 dX12_qTest_19 (by decide) ?_
        refine lv_icmp_ne (tgt := 47) C.1 C.2.1 dX12_qTest_21 (by decide) (fun hc => ?_) (fun hc => ?_)
        · replace h := if_f h hc
          refine lv_aload_n C.1 C.2.1 dX12_qTest_47 rfl (lv_at hl 1 rfl) ?_
          refine lv_aload_n C.1 C.2.1 dX12_qTest_48 rfl (lv_at hl 1 rfl) ?_
          refine ho_getR (a' := 82) C cf12 fM_195 hR aM_0 rfl dX12_qTest_49 ?_
          obtain ⟨r2, S2, h2, h⟩ := ob2_ok h
          refine hr_Vi (v := r2) (S' := S2) (As := [.ref (E.2.1 82)]) (rest := []) C cf12 (c_X12_isHere l E 82 3 aM_82 _ _ h2) yv_X12_isHere lk_RX12_287 rfl aM_0 rfl rfl hl.1 (Nat.le_of_ble_eq_true rfl) (by decide) (by decide) hR (ho_A hR) dX12_qTest_52 (fun H locs hR => ?_)
          refine lv_if_eq (tgt := 79) C.1 C.2.1 dX12_qTest_55 (by decide) (fun hc => ?_) (fun hc => ?_)
          · replace h := if_t h hc
            refine lv_aload_n C.1 C.2.1 dX12_qTest_79 rfl (lv_at hl 1 rfl) ?_
            obtain ⟨S3, h3, h⟩ := ob_ok h
            refine hr_Vv (S' := S3) (As := []) (rest := []) C cf12 (c_X12_qFact l E _ _ h3) yv_X12_qFact lk_RX12_649 rfl aM_0 rfl rfl hl.1 (Nat.le_of_ble_eq_true rfl) (by decide) (by decide) hR (ho_A hR) dX12_qTest_80 (fun H locs hR => ?_)
            refine lv_aload_n C.1 C.2.1 dX12_qTest_83 rfl (lv_at hl 1 rfl) ?_
            obtain ⟨S4, h4, h⟩ := ob_ok h
            refine hr_Vv (S' := S4) (As := []) (rest := []) C cf12 (c_X12_qDropsNots l E _ _ h4) yv_X12_qDropsNots lk_RX12_652 rfl aM_0 rfl rfl hl.1 (Nat.le_of_ble_eq_true rfl) (by decide) (by decide) hR (ho_A hR) dX12_qTest_84 (fun H locs hR => ?_)
            refine lv_aload_n C.1 C.2.1 dX12_qTest_87 rfl (lv_at hl 1 rfl) ?_
            refine ho_getI C cf12 fM_264 hR aM_0 dX12_qTest_88 ?_
            refine lv_if_ne (tgt := 105) C.1 C.2.1 dX12_qTest_91 (by decide) (fun hc => ?_) (fun hc => ?_)
            · replace h := if_f h hc
              exact w_X12_qTest_105 C (f_X12_qTest_2 k) ih S4 h _ _ _ hR (lv_sub hl [1] rfl)
            · replace h := if_t h hc
              refine lv_aload_n C.1 C.2.1 dX12_qTest_94 rfl (lv_at hl 1 rfl) ?_
              obtain ⟨r5, S5, h5, h⟩ := ob2_ok h
              refine hr_Vi (v := r5) (S' := S5) (As := []) (rest := []) C cf12 (c_X12_qGoesOnTest l E _ _ h5) yv_X12_qGoesOnTest lk_RX12_655 rfl aM_0 rfl rfl hl.1 (Nat.le_of_ble_eq_true rfl) (by decide) (by decide) hR (ho_A hR) dX12_qTest_95 (fun H locs hR => ?_)
              refine lv_if_eq (tgt := 105) C.1 C.2.1 dX12_qTest_98 (by decide) (fun hc => ?_) (fun hc => ?_)
              · replace h := if_t h hc
                exact w_X12_qTest_105 C (f_X12_qTest_2 k) ih S5 h _ _ _ hR (lv_sub hl [1] rfl)
              · replace h := if_f h hc
                refine lv_iconst (v := (1 : Int32)) C.1 C.2.1 dX12_qTest_101 (by decide) ?_
                refine lv_goto (tgt := 106) C.1 C.2.1 dX12_qTest_102 (by decide) ?_
                exact w_X12_qTest_106 C (f_X12_qTest_2 k) ih (1 : Int32) S5 h _ _ _ hR (lv_sub hl [1] rfl)
          · replace h := if_f h hc
            refine lv_aload_n C.1 C.2.1 dX12_qTest_58 rfl (lv_at hl 1 rfl) ?_
            refine lv_bipush (v := (12 : Int32)) C.1 C.2.1 dX12_qTest_59 (by decide) ?_
            refine lv_aload_n C.1 C.2.1 dX12_qTest_61 rfl (lv_at hl 1 rfl) ?_
            refine ho_getI C cf12 fM_270 hR aM_0 dX12_qTest_62 ?_
            obtain ⟨S6, h6, h⟩ := ob_ok h
            refine hr_Vv (S' := S6) (As := [.int (12 : Int32), .int (S2.1 0 2)]) (rest := []) C cf12 (c_X12_qOpens l E (12 : Int32) (S2.1 0 2) _ _ h6) yv_X12_qOpens lk_RX12_625 rfl aM_0 rfl rfl hl.1 (Nat.le_of_ble_eq_true rfl) (by decide) (by decide) hR (ho_A hR) dX12_qTest_65 (fun H locs hR => ?_)
            refine lv_aload_n C.1 C.2.1 dX12_qTest_68 rfl (lv_at hl 1 rfl) ?_
            refine lv_aload_n C.1 C.2.1 dX12_qTest_69 rfl (lv_at hl 1 rfl) ?_
            refine ho_getR (a' := 82) C cf12 fM_195 hR aM_0 rfl dX12_qTest_70 ?_
            obtain ⟨S7, h7, h⟩ := ob_ok h
            refine hr_Vv (S' := S7) (As := [.ref (E.2.1 82)]) (rest := []) C cf12 (c_X12_asks l E 82 3 aM_82 _ _ h7) yv_X12_asks lk_RX12_330 rfl aM_0 rfl rfl hl.1 (Nat.le_of_ble_eq_true rfl) (by decide) (by decide) hR (ho_A hR) dX12_qTest_73 (fun H locs hR => ?_)
            refine lv_goto (tgt := 2) C.1 C.2.1 dX12_qTest_76 (by decide) ?_
            exact ih x1 S7 h _ _ _ hR (lv_sub hl [1, 2] rfl)
        · replace h := if_t h hc
          refine lv_aload_n C.1 C.2.1 dX12_qTest_24 rfl (lv_at hl 1 rfl) ?_
          refine lv_bipush (v := (25 : Int32)) C.1 C.2.1 dX12_qTest_25 (by decide) ?_
          refine lv_aload_n C.1 C.2.1 dX12_qTest_27 rfl (lv_at hl 1 rfl) ?_
          refine ho_getI C cf12 fM_270 hR aM_0 dX12_qTest_28 ?_
          obtain ⟨S8, h8, h⟩ := ob_ok h
          refine hr_Vv (S' := S8) (As := [.int (25 : Int32), .int (S1.1 0 2)]) (rest := []) C cf12 (c_X12_qOpens l E (25 : Int32) (S1.1 0 2) _ _ h8) yv_X12_qOpens lk_RX12_625 rfl aM_0 rfl rfl hl.1 (Nat.le_of_ble_eq_true rfl) (by decide) (by decide) hR (ho_A hR) dX12_qTest_31 (fun H locs hR => ?_)
          refine lv_aload_n C.1 C.2.1 dX12_qTest_34 rfl (lv_at hl 1 rfl) ?_
          refine lv_dup C.1 C.2.1 dX12_qTest_35 rfl ?_
          refine ho_getI C cf12 fM_270 hR aM_0 dX12_qTest_36 ?_
          refine lv_iconst (v := (1 : Int32)) C.1 C.2.1 dX12_qTest_39 (by decide) ?_
          refine lv_iadd C.1 C.2.1 dX12_qTest_40 ?_
          obtain ⟨S9, e9, h⟩ := le1_ok h
          refine hr_putI C cf12 fM_270 hR aM_0 e9 dX12_qTest_41 (fun H locs hR => ?_)
          refine lv_goto (tgt := 2) C.1 C.2.1 dX12_qTest_44 (by decide) ?_
          exact ih x1 S9 h _ _ _ hR (lv_sub hl [1, 2] rfl)
def f_X12_qTest (S : Hp) : Option Hp :=
  f_X12_qTest_2 5000 (1 : Int32) S
set_option maxHeartbeats 4000000 in
set_option maxRecDepth 100000 in
theorem c_X12_qTest (l : Launch) (E : Ev) (S : Hp) (r : Hp) (h : f_X12_qTest S = some r) : ho_M l yM E yX12_qTest cX12_qTest 3 none 8 [.ref (E.2.1 0)] S (none, r) := by
  refine ho_in (by decide) (Nat.le_of_ble_eq_true rfl) ?_
  intro p e s m args below meth c C hR ls hl
  have C : ho_I p s m args meth c RX12 cX12_qTest 3 none := C
  have hl : lv_has ls 3 [(0, .ref (E.2.1 0))] := hl
  unfold f_X12_qTest at h
  refine lv_iconst (v := (1 : Int32)) C.1 C.2.1 dX12_qTest_0 (by decide) ?_
  refine lv_istore_n (lv' := [(1, .int (1 : Int32)), (0, .ref (E.2.1 0))]) C.1 C.2.1 dX12_qTest_1 rfl hl (by decide) rfl (fun ls hl => ?_)
  exact w_X12_qTest_2 C 5000 (1 : Int32) S h _ _ _ hR (lv_sub hl [1, 0] rfl)
theorem dX12_qOf_0 : decode cX12_qOf 0 = .ok (.iload_n 1, 1) := by decide +kernel
theorem dX12_qOf_1 : decode cX12_qOf 1 = .ok (.lookupswitch 11 #[], 11) := by decide +kernel
theorem dX12_qOf_12 : decode cX12_qOf 12 = .ok (.lload_n 2, 1) := by decide +kernel
theorem dX12_qOf_13 : decode cX12_qOf 13 = .ok (.lconst 0, 1) := by decide +kernel
theorem dX12_qOf_14 : decode cX12_qOf 14 = .ok (.aload_n 0, 1) := by decide +kernel
theorem dX12_qOf_15 : decode cX12_qOf 15 = .ok (.invokevirtual 413, 3) := by decide +kernel
theorem dX12_qOf_18 : decode cX12_qOf 18 = .ok (.iconst 1, 1) := by decide +kernel
theorem dX12_qOf_19 : decode cX12_qOf 19 = .ok (.isub, 1) := by decide +kernel
theorem dX12_qOf_20 : decode cX12_qOf 20 = .ok (.i2l, 1) := by decide +kernel
theorem dX12_qOf_21 : decode cX12_qOf 21 = .ok (.invokestatic 304, 3) := by decide +kernel
theorem dX12_qOf_24 : decode cX12_qOf 24 = .ok (.ifCond .eq 20, 3) := by decide +kernel
theorem dX12_qOf_27 : decode cX12_qOf 27 = .ok (.aload_n 0, 1) := by decide +kernel
theorem dX12_qOf_28 : decode cX12_qOf 28 = .ok (.getfield 145, 3) := by decide +kernel
theorem dX12_qOf_31 : decode cX12_qOf 31 = .ok (.bipush 6, 2) := by decide +kernel
theorem dX12_qOf_33 : decode cX12_qOf 33 = .ok (.iload 4, 2) := by decide +kernel
theorem dX12_qOf_35 : decode cX12_qOf 35 = .ok (.imul, 1) := by decide +kernel
theorem dX12_qOf_36 : decode cX12_qOf 36 = .ok (.lload_n 2, 1) := by decide +kernel
theorem dX12_qOf_37 : decode cX12_qOf 37 = .ok (.l2i, 1) := by decide +kernel
theorem dX12_qOf_38 : decode cX12_qOf 38 = .ok (.iadd, 1) := by decide +kernel
theorem dX12_qOf_39 : decode cX12_qOf 39 = .ok (.iaload, 1) := by decide +kernel
theorem dX12_qOf_40 : decode cX12_qOf 40 = .ok (.i2l, 1) := by decide +kernel
theorem dX12_qOf_41 : decode cX12_qOf 41 = .ok (.goto 4, 3) := by decide +kernel
theorem dX12_qOf_44 : decode cX12_qOf 44 = .ok (.lconst 0, 1) := by decide +kernel
theorem dX12_qOf_45 : decode cX12_qOf 45 = .ok (.lreturn, 1) := by decide +kernel
def f_X12_qOf (x1 : Int32) (x2 : Int64) (x4 : Int32) (S : Hp) : Option (Int64 × Hp) :=
  ob2 (f_X12_watcherMany S) (fun r1 S1 => ob2 (f_X12_isIn x2 (0 : Int64) ((r1 - (1 : Int32)).toInt64) S1) (fun r2 S2 => if r2 = 0 then some ((0 : Int64), S2) else ldI S2 59 36 (((6 : Int32) * x4) + (x2.toInt32)) (fun v3 => some ((v3.toInt64), S2))))
set_option maxHeartbeats 4000000 in
set_option maxRecDepth 100000 in
theorem c_X12_qOf (l : Launch) (E : Ev) (x1 : Int32) (x2 : Int64) (x4 : Int32) (S : Hp) (r : (Int64 × Hp)) (h : f_X12_qOf x1 x2 x4 S = some r) : ho_M l yM E yX12_qOf cX12_qOf 5 (some .long) 1 [.ref (E.2.1 0), .int x1, .long x2, .int x4] S (some (.long r.1), r.2) := by
  refine ho_in (by decide) (Nat.le_of_ble_eq_true rfl) ?_
  intro p e s m args below meth c C hR ls hl
  have C : ho_I p s m args meth c RX12 cX12_qOf 5 (some .long) := C
  have hl : lv_has ls 5 [(0, .ref (E.2.1 0)), (1, .int x1), (2, .long x2), (4, .int x4)] := hl
  unfold f_X12_qOf at h
  refine lv_iload_n C.1 C.2.1 dX12_qOf_0 rfl (lv_at hl 1 rfl) ?_
  refine lv_lookup (off := 11) (tgt := 12) C.1 C.2.1 dX12_qOf_1 (by decide) (by show Op.lookupswitch.offset [] _ _ = _; rw []; rfl) (by decide) ?_
  refine lv_lload_n C.1 C.2.1 dX12_qOf_12 rfl (lv_at hl 2 rfl) ?_
  refine lv_lconst (v := (0 : Int64)) C.1 C.2.1 dX12_qOf_13 (by decide) ?_
  refine lv_aload_n C.1 C.2.1 dX12_qOf_14 rfl (lv_at hl 0 rfl) ?_
  obtain ⟨r1, S1, h1, h⟩ := ob2_ok h
  refine hr_Vi (v := r1) (S' := S1) (As := []) (rest := [.long (0 : Int64), .long x2]) C cf12 (c_X12_watcherMany l E _ _ h1) yv_X12_watcherMany lk_RX12_413 rfl aM_0 rfl rfl hl.1 (Nat.le_of_ble_eq_true rfl) (by decide) (by decide) hR (ho_A hR) dX12_qOf_15 (fun H locs hR => ?_)
  refine lv_iconst (v := (1 : Int32)) C.1 C.2.1 dX12_qOf_18 (by decide) ?_
  refine lv_isub C.1 C.2.1 dX12_qOf_19 ?_
  refine lv_i2l (v := ((r1 - (1 : Int32)).toInt64)) C.1 C.2.1 dX12_qOf_20 rfl ?_
  obtain ⟨r2, S2, h2, h⟩ := ob2_ok h
  refine hr_Si (v := r2) (S' := S2) (As := [.long x2, .long (0 : Int64), .long ((r1 - (1 : Int32)).toInt64)]) (rest := []) C (c_X12_isIn l E x2 (0 : Int64) ((r1 - (1 : Int32)).toInt64) _ _ h2) ys_X12_isIn lk_RX12_304 rfl rfl hl.1 (Nat.le_of_ble_eq_true rfl) (by decide) (by decide) hR (ho_A hR) dX12_qOf_21 (fun H locs hR => ?_)
  refine lv_if_eq (tgt := 44) C.1 C.2.1 dX12_qOf_24 (by decide) (fun hc => ?_) (fun hc => ?_)
  · replace h := if_t h hc
    refine lv_lconst (v := (0 : Int64)) C.1 C.2.1 dX12_qOf_44 (by decide) ?_
    exact ho_lret C hR h dX12_qOf_45
  · replace h := if_f h hc
    refine lv_aload_n C.1 C.2.1 dX12_qOf_27 rfl (lv_at hl 0 rfl) ?_
    refine ho_getR (a' := 59) C cf12 fM_145 hR aM_0 rfl dX12_qOf_28 ?_
    refine lv_bipush (v := (6 : Int32)) C.1 C.2.1 dX12_qOf_31 (by decide) ?_
    refine lv_iload C.1 C.2.1 dX12_qOf_33 (lv_at hl 3 rfl) ?_
    refine lv_imul C.1 C.2.1 dX12_qOf_35 ?_
    refine lv_lload_n C.1 C.2.1 dX12_qOf_36 rfl (lv_at hl 2 rfl) ?_
    refine lv_l2i (v := (x2.toInt32)) C.1 C.2.1 dX12_qOf_37 rfl ?_
    refine lv_iadd C.1 C.2.1 dX12_qOf_38 ?_
    obtain ⟨v3, e3, hi3, h⟩ := ldI_ok h
    refine hr_ild C hR aM_59 hi3 e3 dX12_qOf_39 ?_
    refine lv_i2l (v := (v3.toInt64)) C.1 C.2.1 dX12_qOf_40 rfl ?_
    refine lv_goto (tgt := 45) C.1 C.2.1 dX12_qOf_41 (by decide) ?_
    exact ho_lret C hR h dX12_qOf_45
theorem dX12_qTold_0 : decode cX12_qTold 0 = .ok (.aload_n 0, 1) := by decide +kernel
theorem dX12_qTold_1 : decode cX12_qTold 1 = .ok (.iconst 0, 1) := by decide +kernel
theorem dX12_qTold_2 : decode cX12_qTold 2 = .ok (.putfield 416, 3) := by decide +kernel
theorem dX12_qTold_5 : decode cX12_qTold 5 = .ok (.iconst 0, 1) := by decide +kernel
theorem dX12_qTold_6 : decode cX12_qTold 6 = .ok (.istore_n 2, 1) := by decide +kernel
theorem dX12_qTold_7 : decode cX12_qTold 7 = .ok (.iload_n 2, 1) := by decide +kernel
theorem dX12_qTold_8 : decode cX12_qTold 8 = .ok (.aload_n 0, 1) := by decide +kernel
theorem dX12_qTold_9 : decode cX12_qTold 9 = .ok (.getfield 352, 3) := by decide +kernel
theorem dX12_qTold_12 : decode cX12_qTold 12 = .ok (.if_icmp .ge 156, 3) := by decide +kernel
theorem dX12_qTold_15 : decode cX12_qTold 15 = .ok (.aload_n 0, 1) := by decide +kernel
theorem dX12_qTold_16 : decode cX12_qTold 16 = .ok (.getfield 249, 3) := by decide +kernel
theorem dX12_qTold_19 : decode cX12_qTold 19 = .ok (.iload_n 2, 1) := by decide +kernel
theorem dX12_qTold_20 : decode cX12_qTold 20 = .ok (.iaload, 1) := by decide +kernel
theorem dX12_qTold_21 : decode cX12_qTold 21 = .ok (.istore_n 3, 1) := by decide +kernel
theorem dX12_qTold_22 : decode cX12_qTold 22 = .ok (.iload_n 3, 1) := by decide +kernel
theorem dX12_qTold_23 : decode cX12_qTold 23 = .ok (.sipush 1000, 3) := by decide +kernel
theorem dX12_qTold_26 : decode cX12_qTold 26 = .ok (.if_icmp .lt 16, 3) := by decide +kernel
theorem dX12_qTold_29 : decode cX12_qTold 29 = .ok (.aload_n 0, 1) := by decide +kernel
theorem dX12_qTold_30 : decode cX12_qTold 30 = .ok (.iload_n 3, 1) := by decide +kernel
theorem dX12_qTold_31 : decode cX12_qTold 31 = .ok (.sipush 1000, 3) := by decide +kernel
theorem dX12_qTold_34 : decode cX12_qTold 34 = .ok (.isub, 1) := by decide +kernel
theorem dX12_qTold_35 : decode cX12_qTold 35 = .ok (.i2l, 1) := by decide +kernel
theorem dX12_qTold_36 : decode cX12_qTold 36 = .ok (.invokevirtual 419, 3) := by decide +kernel
theorem dX12_qTold_39 : decode cX12_qTold 39 = .ok (.goto 123, 3) := by decide +kernel
theorem dX12_qTold_42 : decode cX12_qTold 42 = .ok (.iload_n 3, 1) := by decide +kernel
theorem dX12_qTold_43 : decode cX12_qTold 43 = .ok (.bipush 60, 2) := by decide +kernel
theorem dX12_qTold_45 : decode cX12_qTold 45 = .ok (.if_icmp .lt 40, 3) := by decide +kernel
theorem dX12_qTold_48 : decode cX12_qTold 48 = .ok (.aload_n 0, 1) := by decide +kernel
theorem dX12_qTold_49 : decode cX12_qTold 49 = .ok (.getfield 255, 3) := by decide +kernel
theorem dX12_qTold_52 : decode cX12_qTold 52 = .ok (.aload_n 0, 1) := by decide +kernel
theorem dX12_qTold_53 : decode cX12_qTold 53 = .ok (.getfield 416, 3) := by decide +kernel
theorem dX12_qTold_56 : decode cX12_qTold 56 = .ok (.iconst 1, 1) := by decide +kernel
theorem dX12_qTold_57 : decode cX12_qTold 57 = .ok (.isub, 1) := by decide +kernel
theorem dX12_qTold_58 : decode cX12_qTold 58 = .ok (.aload_n 0, 1) := by decide +kernel
theorem dX12_qTold_59 : decode cX12_qTold 59 = .ok (.iload_n 3, 1) := by decide +kernel
theorem dX12_qTold_60 : decode cX12_qTold 60 = .ok (.bipush 60, 2) := by decide +kernel
theorem dX12_qTold_62 : decode cX12_qTold 62 = .ok (.isub, 1) := by decide +kernel
theorem dX12_qTold_63 : decode cX12_qTold 63 = .ok (.aload_n 0, 1) := by decide +kernel
theorem dX12_qTold_64 : decode cX12_qTold 64 = .ok (.getfield 255, 3) := by decide +kernel
theorem dX12_qTold_67 : decode cX12_qTold 67 = .ok (.aload_n 0, 1) := by decide +kernel
theorem dX12_qTold_68 : decode cX12_qTold 68 = .ok (.getfield 416, 3) := by decide +kernel
theorem dX12_qTold_71 : decode cX12_qTold 71 = .ok (.iconst 1, 1) := by decide +kernel
theorem dX12_qTold_72 : decode cX12_qTold 72 = .ok (.isub, 1) := by decide +kernel
theorem dX12_qTold_73 : decode cX12_qTold 73 = .ok (.laload, 1) := by decide +kernel
theorem dX12_qTold_74 : decode cX12_qTold 74 = .ok (.iload_n 1, 1) := by decide +kernel
theorem dX12_qTold_75 : decode cX12_qTold 75 = .ok (.invokevirtual 673, 3) := by decide +kernel
theorem dX12_qTold_78 : decode cX12_qTold 78 = .ok (.invokestatic 665, 3) := by decide +kernel
theorem dX12_qTold_81 : decode cX12_qTold 81 = .ok (.lastore, 1) := by decide +kernel
theorem dX12_qTold_82 : decode cX12_qTold 82 = .ok (.goto 80, 3) := by decide +kernel
theorem dX12_qTold_85 : decode cX12_qTold 85 = .ok (.iload_n 3, 1) := by decide +kernel
theorem dX12_qTold_86 : decode cX12_qTold 86 = .ok (.bipush 40, 2) := by decide +kernel
theorem dX12_qTold_88 : decode cX12_qTold 88 = .ok (.if_icmp .lt 22, 3) := by decide +kernel
theorem dX12_qTold_91 : decode cX12_qTold 91 = .ok (.aload_n 0, 1) := by decide +kernel
theorem dX12_qTold_92 : decode cX12_qTold 92 = .ok (.aload_n 0, 1) := by decide +kernel
theorem dX12_qTold_93 : decode cX12_qTold 93 = .ok (.iload_n 3, 1) := by decide +kernel
theorem dX12_qTold_94 : decode cX12_qTold 94 = .ok (.bipush 40, 2) := by decide +kernel
theorem dX12_qTold_96 : decode cX12_qTold 96 = .ok (.isub, 1) := by decide +kernel
theorem dX12_qTold_97 : decode cX12_qTold 97 = .ok (.iload_n 1, 1) := by decide +kernel
theorem dX12_qTold_98 : decode cX12_qTold 98 = .ok (.invokevirtual 423, 3) := by decide +kernel
theorem dX12_qTold_101 : decode cX12_qTold 101 = .ok (.invokestatic 665, 3) := by decide +kernel
theorem dX12_qTold_104 : decode cX12_qTold 104 = .ok (.invokevirtual 419, 3) := by decide +kernel
theorem dX12_qTold_107 : decode cX12_qTold 107 = .ok (.goto 55, 3) := by decide +kernel
theorem dX12_qTold_110 : decode cX12_qTold 110 = .ok (.iload_n 3, 1) := by decide +kernel
theorem dX12_qTold_111 : decode cX12_qTold 111 = .ok (.bipush 13, 2) := by decide +kernel
theorem dX12_qTold_113 : decode cX12_qTold 113 = .ok (.if_icmp .ne 11, 3) := by decide +kernel
theorem dX12_qTold_116 : decode cX12_qTold 116 = .ok (.aload_n 0, 1) := by decide +kernel
theorem dX12_qTold_117 : decode cX12_qTold 117 = .ok (.lconst 1, 1) := by decide +kernel
theorem dX12_qTold_118 : decode cX12_qTold 118 = .ok (.invokevirtual 419, 3) := by decide +kernel
theorem dX12_qTold_121 : decode cX12_qTold 121 = .ok (.goto 41, 3) := by decide +kernel
theorem dX12_qTold_124 : decode cX12_qTold 124 = .ok (.iload_n 3, 1) := by decide +kernel
theorem dX12_qTold_125 : decode cX12_qTold 125 = .ok (.bipush 12, 2) := by decide +kernel
theorem dX12_qTold_127 : decode cX12_qTold 127 = .ok (.if_icmp .ne 30, 3) := by decide +kernel
theorem dX12_qTold_130 : decode cX12_qTold 130 = .ok (.aload_n 0, 1) := by decide +kernel
theorem dX12_qTold_131 : decode cX12_qTold 131 = .ok (.getfield 255, 3) := by decide +kernel
theorem dX12_qTold_134 : decode cX12_qTold 134 = .ok (.aload_n 0, 1) := by decide +kernel
theorem dX12_qTold_135 : decode cX12_qTold 135 = .ok (.getfield 416, 3) := by decide +kernel
theorem dX12_qTold_138 : decode cX12_qTold 138 = .ok (.iconst 1, 1) := by decide +kernel
theorem dX12_qTold_139 : decode cX12_qTold 139 = .ok (.isub, 1) := by decide +kernel
theorem dX12_qTold_140 : decode cX12_qTold 140 = .ok (.lconst 1, 1) := by decide +kernel
theorem dX12_qTold_141 : decode cX12_qTold 141 = .ok (.aload_n 0, 1) := by decide +kernel
theorem dX12_qTold_142 : decode cX12_qTold 142 = .ok (.getfield 255, 3) := by decide +kernel
theorem dX12_qTold_145 : decode cX12_qTold 145 = .ok (.aload_n 0, 1) := by decide +kernel
theorem dX12_qTold_146 : decode cX12_qTold 146 = .ok (.getfield 416, 3) := by decide +kernel
theorem dX12_qTold_149 : decode cX12_qTold 149 = .ok (.iconst 1, 1) := by decide +kernel
theorem dX12_qTold_150 : decode cX12_qTold 150 = .ok (.isub, 1) := by decide +kernel
theorem dX12_qTold_151 : decode cX12_qTold 151 = .ok (.laload, 1) := by decide +kernel
theorem dX12_qTold_152 : decode cX12_qTold 152 = .ok (.lsub, 1) := by decide +kernel
theorem dX12_qTold_153 : decode cX12_qTold 153 = .ok (.lastore, 1) := by decide +kernel
theorem dX12_qTold_154 : decode cX12_qTold 154 = .ok (.goto 8, 3) := by decide +kernel
theorem dX12_qTold_157 : decode cX12_qTold 157 = .ok (.aload_n 0, 1) := by decide +kernel
theorem dX12_qTold_158 : decode cX12_qTold 158 = .ok (.iload_n 3, 1) := by decide +kernel
theorem dX12_qTold_159 : decode cX12_qTold 159 = .ok (.invokevirtual 427, 3) := by decide +kernel
theorem dX12_qTold_162 : decode cX12_qTold 162 = .ok (.iinc 2 1, 3) := by decide +kernel
theorem dX12_qTold_165 : decode cX12_qTold 165 = .ok (.goto (-158), 3) := by decide +kernel
theorem dX12_qTold_168 : decode cX12_qTold 168 = .ok (.aload_n 0, 1) := by decide +kernel
theorem dX12_qTold_169 : decode cX12_qTold 169 = .ok (.getfield 255, 3) := by decide +kernel
theorem dX12_qTold_172 : decode cX12_qTold 172 = .ok (.iconst 0, 1) := by decide +kernel
theorem dX12_qTold_173 : decode cX12_qTold 173 = .ok (.laload, 1) := by decide +kernel
theorem dX12_qTold_174 : decode cX12_qTold 174 = .ok (.lreturn, 1) := by decide +kernel
def f_X12_qTold_162 (K7 : Int32 → Int32 → Hp → Option (Int64 × Hp)) (x1 : Int32) (x2 : Int32) (S : Hp) : Option (Int64 × Hp) :=
  le1 (x2 + (1 : Int32)) (fun v1 => K7 x1 v1 S)
set_option maxHeartbeats 4000000 in
set_option maxRecDepth 100000 in
theorem w_X12_qTold_162 {p : Program} {l : Launch} {e : Env} {s : State} {m : MethodId} {args : Array Value} {below : List Frame} {meth : Method} {c : Code} {E : Ev} {S0 : Hp} {r : (Int64 × Hp)} (C : ho_I p s m args meth c RX12 cX12_qTold 4 (some .long)) (K7 : Int32 → Int32 → Hp → Option (Int64 × Hp)) (hK7 : ∀ (y1 : Int32) (y2 : Int32) (S : Hp), K7 y1 y2 S = some r → ho_G p l e s m args below meth c yM E S0 2 4 (some (.long r.1), r.2) 7 [(0, .ref (E.2.1 0)), (1, .int y1), (2, .int y2)] [] S) :
    ∀ (x1 : Int32) (x2 : Int32) (S : Hp), f_X12_qTold_162 K7 x1 x2 S = some r → ho_G p l e s m args below meth c yM E S0 2 4 (some (.long r.1), r.2) 162 [(0, .ref (E.2.1 0)), (1, .int x1), (2, .int x2)] [] S := by
  intro x1 x2 S h H locs ls hR hl
  unfold f_X12_qTold_162 at h
  obtain ⟨v1, e1, h⟩ := le1_ok h
  refine lv_iinc (v := v1) (lv' := [(2, .int v1), (0, .ref (E.2.1 0)), (1, .int x1)]) C.1 C.2.1 dX12_qTold_162 hl (k := 2) rfl (by rw [e1]; rfl) (by decide) rfl (fun ls hl => ?_)
  refine lv_goto (tgt := 7) C.1 C.2.1 dX12_qTold_165 (by decide) ?_
  exact hK7 x1 v1 S h _ _ _ hR (lv_sub hl [1, 2, 0] rfl)
def f_X12_qTold_7 : Nat → Int32 → Int32 → Hp → Option (Int64 × Hp)
  | 0, _, _, _ => none
  | k + 1, x1, x2, S => if (S.1 0 100) ≤ x2 then ldJ S 106 1700 (0 : Int32) (fun v1 => some (v1, S)) else ldI S 100 1700 x2 (fun v2 => if v2 < (1000 : Int32) then if v2 < (60 : Int32) then if v2 < (40 : Int32) then if v2 = (13 : Int32) then ob (f_X12_qPuts (1 : Int64) S) (fun S6 => f_X12_qTold_162 (f_X12_qTold_7 k) x1 x2 S6) else if v2 = (12 : Int32) then ldJ S 106 1700 ((S.1 0 106) - (1 : Int32)) (fun v4 => stJ S 106 1700 ((S.1 0 106) - (1 : Int32)) ((1 : Int64) - v4) (fun S5 => f_X12_qTold_162 (f_X12_qTold_7 k) x1 x2 S5)) else ob (f_X12_qJoins v2 S) (fun S3 => f_X12_qTold_162 (f_X12_qTold_7 k) x1 x2 S3) else ob2 (f_X12_qPartOf (v2 - (40 : Int32)) x1 S) (fun r7 S7 => ob2 (f_X12_qClip r7 S7) (fun r8 S8 => ob (f_X12_qPuts r8 S8) (fun S9 => f_X12_qTold_162 (f_X12_qTold_7 k) x1 x2 S9))) else ldJ S 106 1700 ((S.1 0 106) - (1 : Int32)) (fun v10 => ob2 (f_X12_qOf (v2 - (60 : Int32)) v10 x1 S) (fun r11 S11 => ob2 (f_X12_qClip r11 S11) (fun r12 S12 => stJ S12 106 1700 ((S.1 0 106) - (1 : Int32)) r12 (fun S13 => f_X12_qTold_162 (f_X12_qTold_7 k) x1 x2 S13)))) else ob (f_X12_qPuts ((v2 - (1000 : Int32)).toInt64) S) (fun S14 => f_X12_qTold_162 (f_X12_qTold_7 k) x1 x2 S14))
set_option maxHeartbeats 4000000 in
set_option maxRecDepth 100000 in
theorem w_X12_qTold_7 {p : Program} {l : Launch} {e : Env} {s : State} {m : MethodId} {args : Array Value} {below : List Frame} {meth : Method} {c : Code} {E : Ev} {S0 : Hp} {r : (Int64 × Hp)} (C : ho_I p s m args meth c RX12 cX12_qTold 4 (some .long)) :
    ∀ (k : Nat) (x1 : Int32) (x2 : Int32) (S : Hp), f_X12_qTold_7 k x1 x2 S = some r → ho_G p l e s m args below meth c yM E S0 2 4 (some (.long r.1), r.2) 7 [(0, .ref (E.2.1 0)), (1, .int x1), (2, .int x2)] [] S := by
  intro k
  induction k with
  | zero =>
    intro x1 x2 S h
    exact absurd (show (none : Option (Int64 × Hp)) = some r from h) (by simp)
  | succ k ih =>
    intro x1 x2 S h H locs ls hR hl
    rw [f_X12_qTold_7] at h
    refine lv_iload_n C.1 C.2.1 dX12_qTold_7 rfl (lv_at hl 2 rfl) ?_
    refine lv_aload_n C.1 C.2.1 dX12_qTold_8 rfl (lv_at hl 0 rfl) ?_
    refine ho_getI C cf12 fM_352 hR aM_0 dX12_qTold_9 ?_
    refine lv_icmp_ge (tgt := 168) C.1 C.2.1 dX12_qTold_12 (by decide) (fun hc => ?_) (fun hc => ?_)
    · replace h := if_t h hc
      refine lv_aload_n C.1 C.2.1 dX12_qTold_168 rfl (lv_at hl 0 rfl) ?_
      refine ho_getR (a' := 106) C cf12 fM_255 hR aM_0 rfl dX12_qTold_169 ?_
      refine lv_iconst (v := (0 : Int32)) C.1 C.2.1 dX12_qTold_172 (by decide) ?_
      obtain ⟨v1, e1, hi1, h⟩ := ldJ_ok h
      refine hr_lld C hR aM_106 hi1 e1 dX12_qTold_173 ?_
      exact ho_lret C hR h dX12_qTold_174
    · replace h := if_f h hc
      refine lv_aload_n C.1 C.2.1 dX12_qTold_15 rfl (lv_at hl 0 rfl) ?_
      refine ho_getR (a' := 100) C cf12 fM_249 hR aM_0 rfl dX12_qTold_16 ?_
      refine lv_iload_n C.1 C.2.1 dX12_qTold_19 rfl (lv_at hl 2 rfl) ?_
      obtain ⟨v2, e2, hi2, h⟩ := ldI_ok h
      refine hr_ild C hR aM_100 hi2 e2 dX12_qTold_20 ?_
      refine lv_istore_n (lv' := [(3, .int v2), (0, .ref (E.2.1 0)), (1, .int x1), (2, .int x2)]) C.1 C.2.1 dX12_qTold_21 rfl hl (by decide) rfl (fun ls hl => ?_)
      refine lv_iload_n C.1 C.2.1 dX12_qTold_22 rfl (lv_at hl 0 rfl) ?_
      refine lv_sipush (v := (1000 : Int32)) C.1 C.2.1 dX12_qTold_23 (by decide) ?_
      refine lv_icmp_lt (tgt := 42) C.1 C.2.1 dX12_qTold_26 (by decide) (fun hc => ?_) (fun hc => ?_)
      · replace h := if_t h hc
        refine lv_iload_n C.1 C.2.1 dX12_qTold_42 rfl (lv_at hl 0 rfl) ?_
        refine lv_bipush (v := (60 : Int32)) C.1 C.2.1 dX12_qTold_43 (by decide) ?_
        refine lv_icmp_lt (tgt := 85) C.1 C.2.1 dX12_qTold_45 (by decide) (fun hc => ?_) (fun hc => ?_)
        · replace h := if_t h hc
          refine lv_iload_n C.1 C.2.1 dX12_qTold_85 rfl (lv_at hl 0 rfl) ?_
          refine lv_bipush (v := (40 : Int32)) C.1 C.2.1 dX12_qTold_86 (by decide) ?_
          refine lv_icmp_lt (tgt := 110) C.1 C.2.1 dX12_qTold_88 (by decide) (fun hc => ?_) (fun hc => ?_)
          · replace h := if_t h hc
            refine lv_iload_n C.1 C.2.1 dX12_qTold_110 rfl (lv_at hl 0 rfl) ?_
            refine lv_bipush (v := (13 : Int32)) C.1 C.2.1 dX12_qTold_111 (by decide) ?_
            refine lv_icmp_ne (tgt := 124) C.1 C.2.1 dX12_qTold_113 (by decide) (fun hc => ?_) (fun hc => ?_)
            · replace h := if_f h hc
              refine lv_iload_n C.1 C.2.1 dX12_qTold_124 rfl (lv_at hl 0 rfl) ?_
              refine lv_bipush (v := (12 : Int32)) C.1 C.2.1 dX12_qTold_125 (by decide) ?_
              refine lv_icmp_ne (tgt := 157) C.1 C.2.1 dX12_qTold_127 (by decide) (fun hc => ?_) (fun hc => ?_)
              · replace h := if_f h hc
                refine lv_aload_n C.1 C.2.1 dX12_qTold_157 rfl (lv_at hl 1 rfl) ?_
                refine lv_iload_n C.1 C.2.1 dX12_qTold_158 rfl (lv_at hl 0 rfl) ?_
                obtain ⟨S3, h3, h⟩ := ob_ok h
                refine hr_Vv (S' := S3) (As := [.int v2]) (rest := []) C cf12 (c_X12_qJoins l E v2 _ _ h3) yv_X12_qJoins lk_RX12_427 rfl aM_0 rfl rfl hl.1 (Nat.le_of_ble_eq_true rfl) (by decide) (by decide) hR (ho_A hR) dX12_qTold_159 (fun H locs hR => ?_)
                exact w_X12_qTold_162 C (f_X12_qTold_7 k) ih x1 x2 S3 h _ _ _ hR (lv_sub hl [1, 2, 3] rfl)
              · replace h := if_t h hc
                refine lv_aload_n C.1 C.2.1 dX12_qTold_130 rfl (lv_at hl 1 rfl) ?_
                refine ho_getR (a' := 106) C cf12 fM_255 hR aM_0 rfl dX12_qTold_131 ?_
                refine lv_aload_n C.1 C.2.1 dX12_qTold_134 rfl (lv_at hl 1 rfl) ?_
                refine ho_getI C cf12 fM_416 hR aM_0 dX12_qTold_135 ?_
                refine lv_iconst (v := (1 : Int32)) C.1 C.2.1 dX12_qTold_138 (by decide) ?_
                refine lv_isub C.1 C.2.1 dX12_qTold_139 ?_
                refine lv_lconst (v := (1 : Int64)) C.1 C.2.1 dX12_qTold_140 (by decide) ?_
                refine lv_aload_n C.1 C.2.1 dX12_qTold_141 rfl (lv_at hl 1 rfl) ?_
                refine ho_getR (a' := 106) C cf12 fM_255 hR aM_0 rfl dX12_qTold_142 ?_
                refine lv_aload_n C.1 C.2.1 dX12_qTold_145 rfl (lv_at hl 1 rfl) ?_
                refine ho_getI C cf12 fM_416 hR aM_0 dX12_qTold_146 ?_
                refine lv_iconst (v := (1 : Int32)) C.1 C.2.1 dX12_qTold_149 (by decide) ?_
                refine lv_isub C.1 C.2.1 dX12_qTold_150 ?_
                obtain ⟨v4, e4, hi4, h⟩ := ldJ_ok h
                refine hr_lld C hR aM_106 hi4 e4 dX12_qTold_151 ?_
                refine lv_lsub C.1 C.2.1 dX12_qTold_152 ?_
                obtain ⟨S5, e5, hi5, h⟩ := stJ_ok h
                refine hr_lst C hR aM_106 hi5 e5 dX12_qTold_153 (fun H locs hR => ?_)
                refine lv_goto (tgt := 162) C.1 C.2.1 dX12_qTold_154 (by decide) ?_
                exact w_X12_qTold_162 C (f_X12_qTold_7 k) ih x1 x2 S5 h _ _ _ hR (lv_sub hl [1, 2, 3] rfl)
            · replace h := if_t h hc
              refine lv_aload_n C.1 C.2.1 dX12_qTold_116 rfl (lv_at hl 1 rfl) ?_
              refine lv_lconst (v := (1 : Int64)) C.1 C.2.1 dX12_qTold_117 (by decide) ?_
              obtain ⟨S6, h6, h⟩ := ob_ok h
              refine hr_Vv (S' := S6) (As := [.long (1 : Int64)]) (rest := []) C cf12 (c_X12_qPuts l E (1 : Int64) _ _ h6) yv_X12_qPuts lk_RX12_419 rfl aM_0 rfl rfl hl.1 (Nat.le_of_ble_eq_true rfl) (by decide) (by decide) hR (ho_A hR) dX12_qTold_118 (fun H locs hR => ?_)
              refine lv_goto (tgt := 162) C.1 C.2.1 dX12_qTold_121 (by decide) ?_
              exact w_X12_qTold_162 C (f_X12_qTold_7 k) ih x1 x2 S6 h _ _ _ hR (lv_sub hl [1, 2, 3] rfl)
          · replace h := if_f h hc
            refine lv_aload_n C.1 C.2.1 dX12_qTold_91 rfl (lv_at hl 1 rfl) ?_
            refine lv_aload_n C.1 C.2.1 dX12_qTold_92 rfl (lv_at hl 1 rfl) ?_
            refine lv_iload_n C.1 C.2.1 dX12_qTold_93 rfl (lv_at hl 0 rfl) ?_
            refine lv_bipush (v := (40 : Int32)) C.1 C.2.1 dX12_qTold_94 (by decide) ?_
            refine lv_isub C.1 C.2.1 dX12_qTold_96 ?_
            refine lv_iload_n C.1 C.2.1 dX12_qTold_97 rfl (lv_at hl 2 rfl) ?_
            obtain ⟨r7, S7, h7, h⟩ := ob2_ok h
            refine hr_Vl (w := r7) (S' := S7) (As := [.int (v2 - (40 : Int32)), .int x1]) (rest := [.ref (E.2.1 0)]) C cf12 (c_X12_qPartOf l E (v2 - (40 : Int32)) x1 _ _ h7) yv_X12_qPartOf lk_RX12_423 rfl aM_0 rfl rfl hl.1 (Nat.le_of_ble_eq_true rfl) (by decide) (by decide) hR (ho_A hR) dX12_qTold_98 (fun H locs hR => ?_)
            obtain ⟨r8, S8, h8, h⟩ := ob2_ok h
            refine hr_Sl (w := r8) (S' := S8) (As := [.long r7]) (rest := [.ref (E.2.1 0)]) C (c_X12_qClip l E r7 _ _ h8) ys_X12_qClip lk_RX12_665 rfl rfl hl.1 (Nat.le_of_ble_eq_true rfl) (by decide) (by decide) hR (ho_A hR) dX12_qTold_101 (fun H locs hR => ?_)
            obtain ⟨S9, h9, h⟩ := ob_ok h
            refine hr_Vv (S' := S9) (As := [.long r8]) (rest := []) C cf12 (c_X12_qPuts l E r8 _ _ h9) yv_X12_qPuts lk_RX12_419 rfl aM_0 rfl rfl hl.1 (Nat.le_of_ble_eq_true rfl) (by decide) (by decide) hR (ho_A hR) dX12_qTold_104 (fun H locs hR => ?_)
            refine lv_goto (tgt := 162) C.1 C.2.1 dX12_qTold_107 (by decide) ?_
            exact w_X12_qTold_162 C (f_X12_qTold_7 k) ih x1 x2 S9 h _ _ _ hR (lv_sub hl [1, 2, 3] rfl)
        · replace h := if_f h hc
          refine lv_aload_n C.1 C.2.1 dX12_qTold_48 rfl (lv_at hl 1 rfl) ?_
          refine ho_getR (a' := 106) C cf12 fM_255 hR aM_0 rfl dX12_qTold_49 ?_
          refine lv_aload_n C.1 C.2.1 dX12_qTold_52 rfl (lv_at hl 1 rfl) ?_
          refine ho_getI C cf12 fM_416 hR aM_0 dX12_qTold_53 ?_
          refine lv_iconst (v := (1 : Int32)) C.1 C.2.1 dX12_qTold_56 (by decide) ?_
          refine lv_isub C.1 C.2.1 dX12_qTold_57 ?_
          refine lv_aload_n C.1 C.2.1 dX12_qTold_58 rfl (lv_at hl 1 rfl) ?_
          refine lv_iload_n C.1 C.2.1 dX12_qTold_59 rfl (lv_at hl 0 rfl) ?_
          refine lv_bipush (v := (60 : Int32)) C.1 C.2.1 dX12_qTold_60 (by decide) ?_
          refine lv_isub C.1 C.2.1 dX12_qTold_62 ?_
          refine lv_aload_n C.1 C.2.1 dX12_qTold_63 rfl (lv_at hl 1 rfl) ?_
          refine ho_getR (a' := 106) C cf12 fM_255 hR aM_0 rfl dX12_qTold_64 ?_
          refine lv_aload_n C.1 C.2.1 dX12_qTold_67 rfl (lv_at hl 1 rfl) ?_
          refine ho_getI C cf12 fM_416 hR aM_0 dX12_qTold_68 ?_
          refine lv_iconst (v := (1 : Int32)) C.1 C.2.1 dX12_qTold_71 (by decide) ?_
          refine lv_isub C.1 C.2.1 dX12_qTold_72 ?_
          obtain ⟨v10, e10, hi10, h⟩ := ldJ_ok h
          refine hr_lld C hR aM_106 hi10 e10 dX12_qTold_73 ?_
          refine lv_iload_n C.1 C.2.1 dX12_qTold_74 rfl (lv_at hl 2 rfl) ?_
          obtain ⟨r11, S11, h11, h⟩ := ob2_ok h
          refine hr_Vl (w := r11) (S' := S11) (As := [.int (v2 - (60 : Int32)), .long v10, .int x1]) (rest := [.int ((S.1 0 106) - (1 : Int32)), .ref (E.2.1 106)]) C cf12 (c_X12_qOf l E (v2 - (60 : Int32)) v10 x1 _ _ h11) yv_X12_qOf lk_RX12_673 rfl aM_0 rfl rfl hl.1 (Nat.le_of_ble_eq_true rfl) (by decide) (by decide) hR (ho_A hR) dX12_qTold_75 (fun H locs hR => ?_)
          obtain ⟨r12, S12, h12, h⟩ := ob2_ok h
          refine hr_Sl (w := r12) (S' := S12) (As := [.long r11]) (rest := [.int ((S.1 0 106) - (1 : Int32)), .ref (E.2.1 106)]) C (c_X12_qClip l E r11 _ _ h12) ys_X12_qClip lk_RX12_665 rfl rfl hl.1 (Nat.le_of_ble_eq_true rfl) (by decide) (by decide) hR (ho_A hR) dX12_qTold_78 (fun H locs hR => ?_)
          obtain ⟨S13, e13, hi13, h⟩ := stJ_ok h
          refine hr_lst C hR aM_106 hi13 e13 dX12_qTold_81 (fun H locs hR => ?_)
          refine lv_goto (tgt := 162) C.1 C.2.1 dX12_qTold_82 (by decide) ?_
          exact w_X12_qTold_162 C (f_X12_qTold_7 k) ih x1 x2 S13 h _ _ _ hR (lv_sub hl [1, 2, 3] rfl)
      · replace h := if_f h hc
        refine lv_aload_n C.1 C.2.1 dX12_qTold_29 rfl (lv_at hl 1 rfl) ?_
        refine lv_iload_n C.1 C.2.1 dX12_qTold_30 rfl (lv_at hl 0 rfl) ?_
        refine lv_sipush (v := (1000 : Int32)) C.1 C.2.1 dX12_qTold_31 (by decide) ?_
        refine lv_isub C.1 C.2.1 dX12_qTold_34 ?_
        refine lv_i2l (v := ((v2 - (1000 : Int32)).toInt64)) C.1 C.2.1 dX12_qTold_35 rfl ?_
        obtain ⟨S14, h14, h⟩ := ob_ok h
        refine hr_Vv (S' := S14) (As := [.long ((v2 - (1000 : Int32)).toInt64)]) (rest := []) C cf12 (c_X12_qPuts l E ((v2 - (1000 : Int32)).toInt64) _ _ h14) yv_X12_qPuts lk_RX12_419 rfl aM_0 rfl rfl hl.1 (Nat.le_of_ble_eq_true rfl) (by decide) (by decide) hR (ho_A hR) dX12_qTold_36 (fun H locs hR => ?_)
        refine lv_goto (tgt := 162) C.1 C.2.1 dX12_qTold_39 (by decide) ?_
        exact w_X12_qTold_162 C (f_X12_qTold_7 k) ih x1 x2 S14 h _ _ _ hR (lv_sub hl [1, 2, 3] rfl)
def f_X12_qTold (x1 : Int32) (S : Hp) : Option (Int64 × Hp) :=
  le1 (ho_sI S 0 106 (0 : Int32)) (fun S1 => f_X12_qTold_7 5000 x1 (0 : Int32) S1)
set_option maxHeartbeats 4000000 in
set_option maxRecDepth 100000 in
theorem c_X12_qTold (l : Launch) (E : Ev) (x1 : Int32) (S : Hp) (r : (Int64 × Hp)) (h : f_X12_qTold x1 S = some r) : ho_M l yM E yX12_qTold cX12_qTold 4 (some .long) 2 [.ref (E.2.1 0), .int x1] S (some (.long r.1), r.2) := by
  refine ho_in (by decide) (Nat.le_of_ble_eq_true rfl) ?_
  intro p e s m args below meth c C hR ls hl
  have C : ho_I p s m args meth c RX12 cX12_qTold 4 (some .long) := C
  have hl : lv_has ls 4 [(0, .ref (E.2.1 0)), (1, .int x1)] := hl
  unfold f_X12_qTold at h
  refine lv_aload_n C.1 C.2.1 dX12_qTold_0 rfl (lv_at hl 0 rfl) ?_
  refine lv_iconst (v := (0 : Int32)) C.1 C.2.1 dX12_qTold_1 (by decide) ?_
  obtain ⟨S1, e1, h⟩ := le1_ok h
  refine hr_putI C cf12 fM_416 hR aM_0 e1 dX12_qTold_2 (fun H locs hR => ?_)
  refine lv_iconst (v := (0 : Int32)) C.1 C.2.1 dX12_qTold_5 (by decide) ?_
  refine lv_istore_n (lv' := [(2, .int (0 : Int32)), (0, .ref (E.2.1 0)), (1, .int x1)]) C.1 C.2.1 dX12_qTold_6 rfl hl (by decide) rfl (fun ls hl => ?_)
  exact w_X12_qTold_7 C 5000 x1 (0 : Int32) S1 h _ _ _ hR (lv_sub hl [1, 2, 0] rfl)
theorem dX12_qKind_0 : decode cX12_qKind 0 = .ok (.aload_n 0, 1) := by decide +kernel
theorem dX12_qKind_1 : decode cX12_qKind 1 = .ok (.aload_n 0, 1) := by decide +kernel
theorem dX12_qKind_2 : decode cX12_qKind 2 = .ok (.getfield 177, 3) := by decide +kernel
theorem dX12_qKind_5 : decode cX12_qKind 5 = .ok (.invokevirtual 291, 3) := by decide +kernel
theorem dX12_qKind_8 : decode cX12_qKind 8 = .ok (.ifCond .eq 7, 3) := by decide +kernel
theorem dX12_qKind_11 : decode cX12_qKind 11 = .ok (.iconst 0, 1) := by decide +kernel
theorem dX12_qKind_12 : decode cX12_qKind 12 = .ok (.goto 64, 3) := by decide +kernel
theorem dX12_qKind_15 : decode cX12_qKind 15 = .ok (.aload_n 0, 1) := by decide +kernel
theorem dX12_qKind_16 : decode cX12_qKind 16 = .ok (.aload_n 0, 1) := by decide +kernel
theorem dX12_qKind_17 : decode cX12_qKind 17 = .ok (.getfield 180, 3) := by decide +kernel
theorem dX12_qKind_20 : decode cX12_qKind 20 = .ok (.invokevirtual 291, 3) := by decide +kernel
theorem dX12_qKind_23 : decode cX12_qKind 23 = .ok (.ifCond .eq 7, 3) := by decide +kernel
theorem dX12_qKind_26 : decode cX12_qKind 26 = .ok (.iconst 1, 1) := by decide +kernel
theorem dX12_qKind_27 : decode cX12_qKind 27 = .ok (.goto 49, 3) := by decide +kernel
theorem dX12_qKind_30 : decode cX12_qKind 30 = .ok (.aload_n 0, 1) := by decide +kernel
theorem dX12_qKind_31 : decode cX12_qKind 31 = .ok (.aload_n 0, 1) := by decide +kernel
theorem dX12_qKind_32 : decode cX12_qKind 32 = .ok (.getfield 183, 3) := by decide +kernel
theorem dX12_qKind_35 : decode cX12_qKind 35 = .ok (.invokevirtual 291, 3) := by decide +kernel
theorem dX12_qKind_38 : decode cX12_qKind 38 = .ok (.ifCond .eq 7, 3) := by decide +kernel
theorem dX12_qKind_41 : decode cX12_qKind 41 = .ok (.iconst 2, 1) := by decide +kernel
theorem dX12_qKind_42 : decode cX12_qKind 42 = .ok (.goto 34, 3) := by decide +kernel
theorem dX12_qKind_45 : decode cX12_qKind 45 = .ok (.aload_n 0, 1) := by decide +kernel
theorem dX12_qKind_46 : decode cX12_qKind 46 = .ok (.aload_n 0, 1) := by decide +kernel
theorem dX12_qKind_47 : decode cX12_qKind 47 = .ok (.getfield 186, 3) := by decide +kernel
theorem dX12_qKind_50 : decode cX12_qKind 50 = .ok (.invokevirtual 291, 3) := by decide +kernel
theorem dX12_qKind_53 : decode cX12_qKind 53 = .ok (.ifCond .eq 7, 3) := by decide +kernel
theorem dX12_qKind_56 : decode cX12_qKind 56 = .ok (.iconst 3, 1) := by decide +kernel
theorem dX12_qKind_57 : decode cX12_qKind 57 = .ok (.goto 19, 3) := by decide +kernel
theorem dX12_qKind_60 : decode cX12_qKind 60 = .ok (.aload_n 0, 1) := by decide +kernel
theorem dX12_qKind_61 : decode cX12_qKind 61 = .ok (.aload_n 0, 1) := by decide +kernel
theorem dX12_qKind_62 : decode cX12_qKind 62 = .ok (.getfield 189, 3) := by decide +kernel
theorem dX12_qKind_65 : decode cX12_qKind 65 = .ok (.invokevirtual 291, 3) := by decide +kernel
theorem dX12_qKind_68 : decode cX12_qKind 68 = .ok (.ifCond .eq 7, 3) := by decide +kernel
theorem dX12_qKind_71 : decode cX12_qKind 71 = .ok (.iconst 4, 1) := by decide +kernel
theorem dX12_qKind_72 : decode cX12_qKind 72 = .ok (.goto 4, 3) := by decide +kernel
theorem dX12_qKind_75 : decode cX12_qKind 75 = .ok (.iconst 5, 1) := by decide +kernel
theorem dX12_qKind_76 : decode cX12_qKind 76 = .ok (.istore_n 1, 1) := by decide +kernel
theorem dX12_qKind_77 : decode cX12_qKind 77 = .ok (.iload_n 1, 1) := by decide +kernel
theorem dX12_qKind_78 : decode cX12_qKind 78 = .ok (.iconst 5, 1) := by decide +kernel
theorem dX12_qKind_79 : decode cX12_qKind 79 = .ok (.if_icmp .ne 11, 3) := by decide +kernel
theorem dX12_qKind_82 : decode cX12_qKind 82 = .ok (.aload_n 0, 1) := by decide +kernel
theorem dX12_qKind_83 : decode cX12_qKind 83 = .ok (.aload_n 0, 1) := by decide +kernel
theorem dX12_qKind_84 : decode cX12_qKind 84 = .ok (.getfield 192, 3) := by decide +kernel
theorem dX12_qKind_87 : decode cX12_qKind 87 = .ok (.invokevirtual 330, 3) := by decide +kernel
theorem dX12_qKind_90 : decode cX12_qKind 90 = .ok (.iload_n 1, 1) := by decide +kernel
theorem dX12_qKind_91 : decode cX12_qKind 91 = .ok (.ireturn, 1) := by decide +kernel
def f_X12_qKind_76 (z0 : Int32) (S : Hp) : Option (Int32 × Hp) :=
  if z0 = (5 : Int32) then ob (f_X12_asks 81 5 S) (fun S1 => some (z0, S1)) else some (z0, S)
set_option maxHeartbeats 4000000 in
set_option maxRecDepth 100000 in
theorem w_X12_qKind_76 {p : Program} {l : Launch} {e : Env} {s : State} {m : MethodId} {args : Array Value} {below : List Frame} {meth : Method} {c : Code} {E : Ev} {S0 : Hp} {r : (Int32 × Hp)} (C : ho_I p s m args meth c RX12 cX12_qKind 2 (some .int)) :
    ∀ (z0 : Int32) (S : Hp), f_X12_qKind_76 z0 S = some r → ho_G p l e s m args below meth c yM E S0 4 2 (some (.int r.1), r.2) 76 [(0, .ref (E.2.1 0))] [.int z0] S := by
  intro z0 S h H locs ls hR hl
  unfold f_X12_qKind_76 at h
  refine lv_istore_n (lv' := [(1, .int z0), (0, .ref (E.2.1 0))]) C.1 C.2.1 dX12_qKind_76 rfl hl (by decide) rfl (fun ls hl => ?_)
  refine lv_iload_n C.1 C.2.1 dX12_qKind_77 rfl (lv_at hl 0 rfl) ?_
  refine lv_iconst (v := (5 : Int32)) C.1 C.2.1 dX12_qKind_78 (by decide) ?_
  refine lv_icmp_ne (tgt := 90) C.1 C.2.1 dX12_qKind_79 (by decide) (fun hc => ?_) (fun hc => ?_)
  · replace h := if_f h hc
    refine lv_iload_n C.1 C.2.1 dX12_qKind_90 rfl (lv_at hl 0 rfl) ?_
    exact ho_iret C hR h dX12_qKind_91
  · replace h := if_t h hc
    refine lv_aload_n C.1 C.2.1 dX12_qKind_82 rfl (lv_at hl 1 rfl) ?_
    refine lv_aload_n C.1 C.2.1 dX12_qKind_83 rfl (lv_at hl 1 rfl) ?_
    refine ho_getR (a' := 81) C cf12 fM_192 hR aM_0 rfl dX12_qKind_84 ?_
    obtain ⟨S1, h1, h⟩ := ob_ok h
    refine hr_Vv (S' := S1) (As := [.ref (E.2.1 81)]) (rest := []) C cf12 (c_X12_asks l E 81 5 aM_81 _ _ h1) yv_X12_asks lk_RX12_330 rfl aM_0 rfl rfl hl.1 (Nat.le_of_ble_eq_true rfl) (by decide) (by decide) hR (ho_A hR) dX12_qKind_87 (fun H locs hR => ?_)
    refine lv_iload_n C.1 C.2.1 dX12_qKind_90 rfl (lv_at hl 0 rfl) ?_
    exact ho_iret C hR h dX12_qKind_91
def f_X12_qKind (S : Hp) : Option (Int32 × Hp) :=
  ob2 (f_X12_takes 76 5 S) (fun r1 S1 => if r1 = 0 then ob2 (f_X12_takes 77 4 S1) (fun r2 S2 => if r2 = 0 then ob2 (f_X12_takes 78 5 S2) (fun r3 S3 => if r3 = 0 then ob2 (f_X12_takes 79 5 S3) (fun r4 S4 => if r4 = 0 then ob2 (f_X12_takes 80 4 S4) (fun r5 S5 => if r5 = 0 then f_X12_qKind_76 (5 : Int32) S5 else f_X12_qKind_76 (4 : Int32) S5) else f_X12_qKind_76 (3 : Int32) S4) else f_X12_qKind_76 (2 : Int32) S3) else f_X12_qKind_76 (1 : Int32) S2) else f_X12_qKind_76 (0 : Int32) S1)
set_option maxHeartbeats 4000000 in
set_option maxRecDepth 100000 in
theorem c_X12_qKind (l : Launch) (E : Ev) (S : Hp) (r : (Int32 × Hp)) (h : f_X12_qKind S = some r) : ho_M l yM E yX12_qKind cX12_qKind 2 (some .int) 4 [.ref (E.2.1 0)] S (some (.int r.1), r.2) := by
  refine ho_in (by decide) (Nat.le_of_ble_eq_true rfl) ?_
  intro p e s m args below meth c C hR ls hl
  have C : ho_I p s m args meth c RX12 cX12_qKind 2 (some .int) := C
  have hl : lv_has ls 2 [(0, .ref (E.2.1 0))] := hl
  unfold f_X12_qKind at h
  refine lv_aload_n C.1 C.2.1 dX12_qKind_0 rfl (lv_at hl 0 rfl) ?_
  refine lv_aload_n C.1 C.2.1 dX12_qKind_1 rfl (lv_at hl 0 rfl) ?_
  refine ho_getR (a' := 76) C cf12 fM_177 hR aM_0 rfl dX12_qKind_2 ?_
  obtain ⟨r1, S1, h1, h⟩ := ob2_ok h
  refine hr_Vi (v := r1) (S' := S1) (As := [.ref (E.2.1 76)]) (rest := []) C cf12 (c_X12_takes l E 76 5 aM_76 _ _ h1) yv_X12_takes lk_RX12_291 rfl aM_0 rfl rfl hl.1 (Nat.le_of_ble_eq_true rfl) (by decide) (by decide) hR (ho_A hR) dX12_qKind_5 (fun H locs hR => ?_)
  refine lv_if_eq (tgt := 15) C.1 C.2.1 dX12_qKind_8 (by decide) (fun hc => ?_) (fun hc => ?_)
  · replace h := if_t h hc
    refine lv_aload_n C.1 C.2.1 dX12_qKind_15 rfl (lv_at hl 0 rfl) ?_
    refine lv_aload_n C.1 C.2.1 dX12_qKind_16 rfl (lv_at hl 0 rfl) ?_
    refine ho_getR (a' := 77) C cf12 fM_180 hR aM_0 rfl dX12_qKind_17 ?_
    obtain ⟨r2, S2, h2, h⟩ := ob2_ok h
    refine hr_Vi (v := r2) (S' := S2) (As := [.ref (E.2.1 77)]) (rest := []) C cf12 (c_X12_takes l E 77 4 aM_77 _ _ h2) yv_X12_takes lk_RX12_291 rfl aM_0 rfl rfl hl.1 (Nat.le_of_ble_eq_true rfl) (by decide) (by decide) hR (ho_A hR) dX12_qKind_20 (fun H locs hR => ?_)
    refine lv_if_eq (tgt := 30) C.1 C.2.1 dX12_qKind_23 (by decide) (fun hc => ?_) (fun hc => ?_)
    · replace h := if_t h hc
      refine lv_aload_n C.1 C.2.1 dX12_qKind_30 rfl (lv_at hl 0 rfl) ?_
      refine lv_aload_n C.1 C.2.1 dX12_qKind_31 rfl (lv_at hl 0 rfl) ?_
      refine ho_getR (a' := 78) C cf12 fM_183 hR aM_0 rfl dX12_qKind_32 ?_
      obtain ⟨r3, S3, h3, h⟩ := ob2_ok h
      refine hr_Vi (v := r3) (S' := S3) (As := [.ref (E.2.1 78)]) (rest := []) C cf12 (c_X12_takes l E 78 5 aM_78 _ _ h3) yv_X12_takes lk_RX12_291 rfl aM_0 rfl rfl hl.1 (Nat.le_of_ble_eq_true rfl) (by decide) (by decide) hR (ho_A hR) dX12_qKind_35 (fun H locs hR => ?_)
      refine lv_if_eq (tgt := 45) C.1 C.2.1 dX12_qKind_38 (by decide) (fun hc => ?_) (fun hc => ?_)
      · replace h := if_t h hc
        refine lv_aload_n C.1 C.2.1 dX12_qKind_45 rfl (lv_at hl 0 rfl) ?_
        refine lv_aload_n C.1 C.2.1 dX12_qKind_46 rfl (lv_at hl 0 rfl) ?_
        refine ho_getR (a' := 79) C cf12 fM_186 hR aM_0 rfl dX12_qKind_47 ?_
        obtain ⟨r4, S4, h4, h⟩ := ob2_ok h
        refine hr_Vi (v := r4) (S' := S4) (As := [.ref (E.2.1 79)]) (rest := []) C cf12 (c_X12_takes l E 79 5 aM_79 _ _ h4) yv_X12_takes lk_RX12_291 rfl aM_0 rfl rfl hl.1 (Nat.le_of_ble_eq_true rfl) (by decide) (by decide) hR (ho_A hR) dX12_qKind_50 (fun H locs hR => ?_)
        refine lv_if_eq (tgt := 60) C.1 C.2.1 dX12_qKind_53 (by decide) (fun hc => ?_) (fun hc => ?_)
        · replace h := if_t h hc
          refine lv_aload_n C.1 C.2.1 dX12_qKind_60 rfl (lv_at hl 0 rfl) ?_
          refine lv_aload_n C.1 C.2.1 dX12_qKind_61 rfl (lv_at hl 0 rfl) ?_
          refine ho_getR (a' := 80) C cf12 fM_189 hR aM_0 rfl dX12_qKind_62 ?_
          obtain ⟨r5, S5, h5, h⟩ := ob2_ok h
          refine hr_Vi (v := r5) (S' := S5) (As := [.ref (E.2.1 80)]) (rest := []) C cf12 (c_X12_takes l E 80 4 aM_80 _ _ h5) yv_X12_takes lk_RX12_291 rfl aM_0 rfl rfl hl.1 (Nat.le_of_ble_eq_true rfl) (by decide) (by decide) hR (ho_A hR) dX12_qKind_65 (fun H locs hR => ?_)
          refine lv_if_eq (tgt := 75) C.1 C.2.1 dX12_qKind_68 (by decide) (fun hc => ?_) (fun hc => ?_)
          · replace h := if_t h hc
            refine lv_iconst (v := (5 : Int32)) C.1 C.2.1 dX12_qKind_75 (by decide) ?_
            exact w_X12_qKind_76 C (5 : Int32) S5 h _ _ _ hR (lv_sub hl [0] rfl)
          · replace h := if_f h hc
            refine lv_iconst (v := (4 : Int32)) C.1 C.2.1 dX12_qKind_71 (by decide) ?_
            refine lv_goto (tgt := 76) C.1 C.2.1 dX12_qKind_72 (by decide) ?_
            exact w_X12_qKind_76 C (4 : Int32) S5 h _ _ _ hR (lv_sub hl [0] rfl)
        · replace h := if_f h hc
          refine lv_iconst (v := (3 : Int32)) C.1 C.2.1 dX12_qKind_56 (by decide) ?_
          refine lv_goto (tgt := 76) C.1 C.2.1 dX12_qKind_57 (by decide) ?_
          exact w_X12_qKind_76 C (3 : Int32) S4 h _ _ _ hR (lv_sub hl [0] rfl)
      · replace h := if_f h hc
        refine lv_iconst (v := (2 : Int32)) C.1 C.2.1 dX12_qKind_41 (by decide) ?_
        refine lv_goto (tgt := 76) C.1 C.2.1 dX12_qKind_42 (by decide) ?_
        exact w_X12_qKind_76 C (2 : Int32) S3 h _ _ _ hR (lv_sub hl [0] rfl)
    · replace h := if_f h hc
      refine lv_iconst (v := (1 : Int32)) C.1 C.2.1 dX12_qKind_26 (by decide) ?_
      refine lv_goto (tgt := 76) C.1 C.2.1 dX12_qKind_27 (by decide) ?_
      exact w_X12_qKind_76 C (1 : Int32) S2 h _ _ _ hR (lv_sub hl [0] rfl)
  · replace h := if_f h hc
    refine lv_iconst (v := (0 : Int32)) C.1 C.2.1 dX12_qKind_11 (by decide) ?_
    refine lv_goto (tgt := 76) C.1 C.2.1 dX12_qKind_12 (by decide) ?_
    exact w_X12_qKind_76 C (0 : Int32) S1 h _ _ _ hR (lv_sub hl [0] rfl)
theorem dX12_qTakes_0 : decode cX12_qTakes 0 = .ok (.iload_n 1, 1) := by decide +kernel
theorem dX12_qTakes_1 : decode cX12_qTakes 1 = .ok (.iconst 3, 1) := by decide +kernel
theorem dX12_qTakes_2 : decode cX12_qTakes 2 = .ok (.if_icmp .ge 13, 3) := by decide +kernel
theorem dX12_qTakes_5 : decode cX12_qTakes 5 = .ok (.lload_n 2, 1) := by decide +kernel
theorem dX12_qTakes_6 : decode cX12_qTakes 6 = .ok (.lconst 1, 1) := by decide +kernel
theorem dX12_qTakes_7 : decode cX12_qTakes 7 = .ok (.lcmp, 1) := by decide +kernel
theorem dX12_qTakes_8 : decode cX12_qTakes 8 = .ok (.ifCond .ne 7, 3) := by decide +kernel
theorem dX12_qTakes_11 : decode cX12_qTakes 11 = .ok (.iconst 1, 1) := by decide +kernel
theorem dX12_qTakes_12 : decode cX12_qTakes 12 = .ok (.goto 4, 3) := by decide +kernel
theorem dX12_qTakes_15 : decode cX12_qTakes 15 = .ok (.iconst 0, 1) := by decide +kernel
theorem dX12_qTakes_16 : decode cX12_qTakes 16 = .ok (.istore 5, 2) := by decide +kernel
theorem dX12_qTakes_18 : decode cX12_qTakes 18 = .ok (.iload_n 1, 1) := by decide +kernel
theorem dX12_qTakes_19 : decode cX12_qTakes 19 = .ok (.ifCond .ne 19, 3) := by decide +kernel
theorem dX12_qTakes_22 : decode cX12_qTakes 22 = .ok (.iload 5, 2) := by decide +kernel
theorem dX12_qTakes_24 : decode cX12_qTakes 24 = .ok (.ifCond .eq 14, 3) := by decide +kernel
theorem dX12_qTakes_27 : decode cX12_qTakes 27 = .ok (.aload_n 0, 1) := by decide +kernel
theorem dX12_qTakes_28 : decode cX12_qTakes 28 = .ok (.getfield 677, 3) := by decide +kernel
theorem dX12_qTakes_31 : decode cX12_qTakes 31 = .ok (.ldc2_w 680, 3) := by decide +kernel
theorem dX12_qTakes_34 : decode cX12_qTakes 34 = .ok (.lcmp, 1) := by decide +kernel
theorem dX12_qTakes_35 : decode cX12_qTakes 35 = .ok (.ifCond .eq 13, 3) := by decide +kernel
theorem dX12_qTakes_38 : decode cX12_qTakes 38 = .ok (.iload_n 1, 1) := by decide +kernel
theorem dX12_qTakes_39 : decode cX12_qTakes 39 = .ok (.iconst 1, 1) := by decide +kernel
theorem dX12_qTakes_40 : decode cX12_qTakes 40 = .ok (.if_icmp .ne 15, 3) := by decide +kernel
theorem dX12_qTakes_43 : decode cX12_qTakes 43 = .ok (.iload 5, 2) := by decide +kernel
theorem dX12_qTakes_45 : decode cX12_qTakes 45 = .ok (.ifCond .eq 10, 3) := by decide +kernel
theorem dX12_qTakes_48 : decode cX12_qTakes 48 = .ok (.aload_n 0, 1) := by decide +kernel
theorem dX12_qTakes_49 : decode cX12_qTakes 49 = .ok (.iload 4, 2) := by decide +kernel
theorem dX12_qTakes_51 : decode cX12_qTakes 51 = .ok (.i2l, 1) := by decide +kernel
theorem dX12_qTakes_52 : decode cX12_qTakes 52 = .ok (.putfield 677, 3) := by decide +kernel
theorem dX12_qTakes_55 : decode cX12_qTakes 55 = .ok (.iload_n 1, 1) := by decide +kernel
theorem dX12_qTakes_56 : decode cX12_qTakes 56 = .ok (.iconst 2, 1) := by decide +kernel
theorem dX12_qTakes_57 : decode cX12_qTakes 57 = .ok (.if_icmp .ne 18, 3) := by decide +kernel
theorem dX12_qTakes_60 : decode cX12_qTakes 60 = .ok (.iload 5, 2) := by decide +kernel
theorem dX12_qTakes_62 : decode cX12_qTakes 62 = .ok (.ifCond .eq 13, 3) := by decide +kernel
theorem dX12_qTakes_65 : decode cX12_qTakes 65 = .ok (.aload_n 0, 1) := by decide +kernel
theorem dX12_qTakes_66 : decode cX12_qTakes 66 = .ok (.dup, 1) := by decide +kernel
theorem dX12_qTakes_67 : decode cX12_qTakes 67 = .ok (.getfield 677, 3) := by decide +kernel
theorem dX12_qTakes_70 : decode cX12_qTakes 70 = .ok (.lconst 1, 1) := by decide +kernel
theorem dX12_qTakes_71 : decode cX12_qTakes 71 = .ok (.ladd, 1) := by decide +kernel
theorem dX12_qTakes_72 : decode cX12_qTakes 72 = .ok (.putfield 677, 3) := by decide +kernel
theorem dX12_qTakes_75 : decode cX12_qTakes 75 = .ok (.iload_n 1, 1) := by decide +kernel
theorem dX12_qTakes_76 : decode cX12_qTakes 76 = .ok (.iconst 3, 1) := by decide +kernel
theorem dX12_qTakes_77 : decode cX12_qTakes 77 = .ok (.if_icmp .ne 13, 3) := by decide +kernel
theorem dX12_qTakes_80 : decode cX12_qTakes 80 = .ok (.aload_n 0, 1) := by decide +kernel
theorem dX12_qTakes_81 : decode cX12_qTakes 81 = .ok (.dup, 1) := by decide +kernel
theorem dX12_qTakes_82 : decode cX12_qTakes 82 = .ok (.getfield 677, 3) := by decide +kernel
theorem dX12_qTakes_85 : decode cX12_qTakes 85 = .ok (.lload_n 2, 1) := by decide +kernel
theorem dX12_qTakes_86 : decode cX12_qTakes 86 = .ok (.ladd, 1) := by decide +kernel
theorem dX12_qTakes_87 : decode cX12_qTakes 87 = .ok (.putfield 677, 3) := by decide +kernel
theorem dX12_qTakes_90 : decode cX12_qTakes 90 = .ok (.iload_n 1, 1) := by decide +kernel
theorem dX12_qTakes_91 : decode cX12_qTakes 91 = .ok (.iconst 3, 1) := by decide +kernel
theorem dX12_qTakes_92 : decode cX12_qTakes 92 = .ok (.if_icmp .le 41, 3) := by decide +kernel
theorem dX12_qTakes_95 : decode cX12_qTakes 95 = .ok (.aload_n 0, 1) := by decide +kernel
theorem dX12_qTakes_96 : decode cX12_qTakes 96 = .ok (.getfield 682, 3) := by decide +kernel
theorem dX12_qTakes_99 : decode cX12_qTakes 99 = .ok (.ifCond .ne 29, 3) := by decide +kernel
theorem dX12_qTakes_102 : decode cX12_qTakes 102 = .ok (.iload_n 1, 1) := by decide +kernel
theorem dX12_qTakes_103 : decode cX12_qTakes 103 = .ok (.iconst 4, 1) := by decide +kernel
theorem dX12_qTakes_104 : decode cX12_qTakes 104 = .ok (.if_icmp .ne 15, 3) := by decide +kernel
theorem dX12_qTakes_107 : decode cX12_qTakes 107 = .ok (.lload_n 2, 1) := by decide +kernel
theorem dX12_qTakes_108 : decode cX12_qTakes 108 = .ok (.aload_n 0, 1) := by decide +kernel
theorem dX12_qTakes_109 : decode cX12_qTakes 109 = .ok (.getfield 677, 3) := by decide +kernel
theorem dX12_qTakes_112 : decode cX12_qTakes 112 = .ok (.lcmp, 1) := by decide +kernel
theorem dX12_qTakes_113 : decode cX12_qTakes 113 = .ok (.ifCond .le 20, 3) := by decide +kernel
theorem dX12_qTakes_116 : decode cX12_qTakes 116 = .ok (.goto 12, 3) := by decide +kernel
theorem dX12_qTakes_119 : decode cX12_qTakes 119 = .ok (.lload_n 2, 1) := by decide +kernel
theorem dX12_qTakes_120 : decode cX12_qTakes 120 = .ok (.aload_n 0, 1) := by decide +kernel
theorem dX12_qTakes_121 : decode cX12_qTakes 121 = .ok (.getfield 677, 3) := by decide +kernel
theorem dX12_qTakes_124 : decode cX12_qTakes 124 = .ok (.lcmp, 1) := by decide +kernel
theorem dX12_qTakes_125 : decode cX12_qTakes 125 = .ok (.ifCond .ge 8, 3) := by decide +kernel
theorem dX12_qTakes_128 : decode cX12_qTakes 128 = .ok (.aload_n 0, 1) := by decide +kernel
theorem dX12_qTakes_129 : decode cX12_qTakes 129 = .ok (.lload_n 2, 1) := by decide +kernel
theorem dX12_qTakes_130 : decode cX12_qTakes 130 = .ok (.putfield 677, 3) := by decide +kernel
theorem dX12_qTakes_133 : decode cX12_qTakes 133 = .ok (.aload_n 0, 1) := by decide +kernel
theorem dX12_qTakes_134 : decode cX12_qTakes 134 = .ok (.iconst 0, 1) := by decide +kernel
theorem dX12_qTakes_135 : decode cX12_qTakes 135 = .ok (.putfield 682, 3) := by decide +kernel
theorem dX12_qTakes_138 : decode cX12_qTakes 138 = .ok (.return_, 1) := by decide +kernel
def f_X12_qTakes_133 (S : Hp) : Option Hp :=
  le1 (ho_sI S 0 108 (0 : Int32)) (fun S1 => some S1)
set_option maxHeartbeats 4000000 in
set_option maxRecDepth 100000 in
theorem w_X12_qTakes_133 {p : Program} {l : Launch} {e : Env} {s : State} {m : MethodId} {args : Array Value} {below : List Frame} {meth : Method} {c : Code} {E : Ev} {S0 : Hp} {r : Hp} (C : ho_I p s m args meth c RX12 cX12_qTakes 6 none) :
    ∀ (S : Hp), f_X12_qTakes_133 S = some r → ho_G p l e s m args below meth c yM E S0 0 6 (none, r) 133 [(0, .ref (E.2.1 0))] [] S := by
  intro S h H locs ls hR hl
  unfold f_X12_qTakes_133 at h
  refine lv_aload_n C.1 C.2.1 dX12_qTakes_133 rfl (lv_at hl 0 rfl) ?_
  refine lv_iconst (v := (0 : Int32)) C.1 C.2.1 dX12_qTakes_134 (by decide) ?_
  obtain ⟨S1, e1, h⟩ := le1_ok h
  refine hr_putZ C cf12 fM_682 hR aM_0 (Or.inl rfl) e1 dX12_qTakes_135 (fun H locs hR => ?_)
  exact ho_vret C hR h dX12_qTakes_138
def f_X12_qTakes_128 (x2 : Int64) (S : Hp) : Option Hp :=
  le1 (ho_sJ S 0 107 x2) (fun S1 => f_X12_qTakes_133 S1)
set_option maxHeartbeats 4000000 in
set_option maxRecDepth 100000 in
theorem w_X12_qTakes_128 {p : Program} {l : Launch} {e : Env} {s : State} {m : MethodId} {args : Array Value} {below : List Frame} {meth : Method} {c : Code} {E : Ev} {S0 : Hp} {r : Hp} (C : ho_I p s m args meth c RX12 cX12_qTakes 6 none) :
    ∀ (x2 : Int64) (S : Hp), f_X12_qTakes_128 x2 S = some r → ho_G p l e s m args below meth c yM E S0 0 6 (none, r) 128 [(0, .ref (E.2.1 0)), (2, .long x2)] [] S := by
  intro x2 S h H locs ls hR hl
  unfold f_X12_qTakes_128 at h
  refine lv_aload_n C.1 C.2.1 dX12_qTakes_128 rfl (lv_at hl 0 rfl) ?_
  refine lv_lload_n C.1 C.2.1 dX12_qTakes_129 rfl (lv_at hl 1 rfl) ?_
  obtain ⟨S1, e1, h⟩ := le1_ok h
  refine hr_putJ C cf12 fM_677 hR aM_0 e1 dX12_qTakes_130 (fun H locs hR => ?_)
  exact w_X12_qTakes_133 C S1 h _ _ _ hR (lv_sub hl [0] rfl)
def f_X12_qTakes_90 (x1 : Int32) (x2 : Int64) (S : Hp) : Option Hp :=
  if x1 ≤ (3 : Int32) then f_X12_qTakes_133 S else if (S.1 0 108) = 0 then if x1 = (4 : Int32) then if (lg_cmp x2 (S.2.1 0 107)) ≤ 0 then f_X12_qTakes_133 S else f_X12_qTakes_128 x2 S else if 0 ≤ (lg_cmp x2 (S.2.1 0 107)) then f_X12_qTakes_133 S else f_X12_qTakes_128 x2 S else f_X12_qTakes_128 x2 S
set_option maxHeartbeats 4000000 in
set_option maxRecDepth 100000 in
theorem w_X12_qTakes_90 {p : Program} {l : Launch} {e : Env} {s : State} {m : MethodId} {args : Array Value} {below : List Frame} {meth : Method} {c : Code} {E : Ev} {S0 : Hp} {r : Hp} (C : ho_I p s m args meth c RX12 cX12_qTakes 6 none) :
    ∀ (x1 : Int32) (x2 : Int64) (S : Hp), f_X12_qTakes_90 x1 x2 S = some r → ho_G p l e s m args below meth c yM E S0 0 6 (none, r) 90 [(0, .ref (E.2.1 0)), (1, .int x1), (2, .long x2)] [] S := by
  intro x1 x2 S h H locs ls hR hl
  unfold f_X12_qTakes_90 at h
  refine lv_iload_n C.1 C.2.1 dX12_qTakes_90 rfl (lv_at hl 1 rfl) ?_
  refine lv_iconst (v := (3 : Int32)) C.1 C.2.1 dX12_qTakes_91 (by decide) ?_
  refine lv_icmp_le (tgt := 133) C.1 C.2.1 dX12_qTakes_92 (by decide) (fun hc => ?_) (fun hc => ?_)
  · replace h := if_t h hc
    exact w_X12_qTakes_133 C S h _ _ _ hR (lv_sub hl [0] rfl)
  · replace h := if_f h hc
    refine lv_aload_n C.1 C.2.1 dX12_qTakes_95 rfl (lv_at hl 0 rfl) ?_
    refine ho_getI C cf12 fM_682 hR aM_0 dX12_qTakes_96 ?_
    refine lv_if_ne (tgt := 128) C.1 C.2.1 dX12_qTakes_99 (by decide) (fun hc => ?_) (fun hc => ?_)
    · replace h := if_f h hc
      exact w_X12_qTakes_128 C x2 S h _ _ _ hR (lv_sub hl [0, 2] rfl)
    · replace h := if_t h hc
      refine lv_iload_n C.1 C.2.1 dX12_qTakes_102 rfl (lv_at hl 1 rfl) ?_
      refine lv_iconst (v := (4 : Int32)) C.1 C.2.1 dX12_qTakes_103 (by decide) ?_
      refine lv_icmp_ne (tgt := 119) C.1 C.2.1 dX12_qTakes_104 (by decide) (fun hc => ?_) (fun hc => ?_)
      · replace h := if_f h hc
        refine lv_lload_n C.1 C.2.1 dX12_qTakes_119 rfl (lv_at hl 2 rfl) ?_
        refine lv_aload_n C.1 C.2.1 dX12_qTakes_120 rfl (lv_at hl 0 rfl) ?_
        refine ho_getJ C cf12 fM_677 hR aM_0 dX12_qTakes_121 ?_
        refine W.lcmp C.1 C.2.1 dX12_qTakes_124 ?_
        refine lv_if_ge (tgt := 133) C.1 C.2.1 dX12_qTakes_125 (by decide) (fun hc => ?_) (fun hc => ?_)
        · replace h := if_t h hc
          exact w_X12_qTakes_133 C S h _ _ _ hR (lv_sub hl [0] rfl)
        · replace h := if_f h hc
          exact w_X12_qTakes_128 C x2 S h _ _ _ hR (lv_sub hl [0, 2] rfl)
      · replace h := if_t h hc
        refine lv_lload_n C.1 C.2.1 dX12_qTakes_107 rfl (lv_at hl 2 rfl) ?_
        refine lv_aload_n C.1 C.2.1 dX12_qTakes_108 rfl (lv_at hl 0 rfl) ?_
        refine ho_getJ C cf12 fM_677 hR aM_0 dX12_qTakes_109 ?_
        refine W.lcmp C.1 C.2.1 dX12_qTakes_112 ?_
        refine lv_if_le (tgt := 133) C.1 C.2.1 dX12_qTakes_113 (by decide) (fun hc => ?_) (fun hc => ?_)
        · replace h := if_t h hc
          exact w_X12_qTakes_133 C S h _ _ _ hR (lv_sub hl [0] rfl)
        · replace h := if_f h hc
          refine lv_goto (tgt := 128) C.1 C.2.1 dX12_qTakes_116 (by decide) ?_
          exact w_X12_qTakes_128 C x2 S h _ _ _ hR (lv_sub hl [0, 2] rfl)
def f_X12_qTakes_75 (x1 : Int32) (x2 : Int64) (S : Hp) : Option Hp :=
  if x1 = (3 : Int32) then le1 (ho_sJ S 0 107 ((S.2.1 0 107) + x2)) (fun S1 => f_X12_qTakes_90 x1 x2 S1) else f_X12_qTakes_90 x1 x2 S
set_option maxHeartbeats 4000000 in
set_option maxRecDepth 100000 in
theorem w_X12_qTakes_75 {p : Program} {l : Launch} {e : Env} {s : State} {m : MethodId} {args : Array Value} {below : List Frame} {meth : Method} {c : Code} {E : Ev} {S0 : Hp} {r : Hp} (C : ho_I p s m args meth c RX12 cX12_qTakes 6 none) :
    ∀ (x1 : Int32) (x2 : Int64) (S : Hp), f_X12_qTakes_75 x1 x2 S = some r → ho_G p l e s m args below meth c yM E S0 0 6 (none, r) 75 [(0, .ref (E.2.1 0)), (1, .int x1), (2, .long x2)] [] S := by
  intro x1 x2 S h H locs ls hR hl
  unfold f_X12_qTakes_75 at h
  refine lv_iload_n C.1 C.2.1 dX12_qTakes_75 rfl (lv_at hl 1 rfl) ?_
  refine lv_iconst (v := (3 : Int32)) C.1 C.2.1 dX12_qTakes_76 (by decide) ?_
  refine lv_icmp_ne (tgt := 90) C.1 C.2.1 dX12_qTakes_77 (by decide) (fun hc => ?_) (fun hc => ?_)
  · replace h := if_f h hc
    exact w_X12_qTakes_90 C x1 x2 S h _ _ _ hR (lv_sub hl [0, 1, 2] rfl)
  · replace h := if_t h hc
    refine lv_aload_n C.1 C.2.1 dX12_qTakes_80 rfl (lv_at hl 0 rfl) ?_
    refine lv_dup C.1 C.2.1 dX12_qTakes_81 rfl ?_
    refine ho_getJ C cf12 fM_677 hR aM_0 dX12_qTakes_82 ?_
    refine lv_lload_n C.1 C.2.1 dX12_qTakes_85 rfl (lv_at hl 2 rfl) ?_
    refine lv_ladd C.1 C.2.1 dX12_qTakes_86 ?_
    obtain ⟨S1, e1, h⟩ := le1_ok h
    refine hr_putJ C cf12 fM_677 hR aM_0 e1 dX12_qTakes_87 (fun H locs hR => ?_)
    exact w_X12_qTakes_90 C x1 x2 S1 h _ _ _ hR (lv_sub hl [0, 1, 2] rfl)
def f_X12_qTakes_55 (x1 : Int32) (x2 : Int64) (x5 : Int32) (S : Hp) : Option Hp :=
  if x1 = (2 : Int32) then if x5 = 0 then f_X12_qTakes_75 x1 x2 S else le1 (ho_sJ S 0 107 ((S.2.1 0 107) + (1 : Int64))) (fun S1 => f_X12_qTakes_75 x1 x2 S1) else f_X12_qTakes_75 x1 x2 S
set_option maxHeartbeats 4000000 in
set_option maxRecDepth 100000 in
theorem w_X12_qTakes_55 {p : Program} {l : Launch} {e : Env} {s : State} {m : MethodId} {args : Array Value} {below : List Frame} {meth : Method} {c : Code} {E : Ev} {S0 : Hp} {r : Hp} (C : ho_I p s m args meth c RX12 cX12_qTakes 6 none) :
    ∀ (x1 : Int32) (x2 : Int64) (x5 : Int32) (S : Hp), f_X12_qTakes_55 x1 x2 x5 S = some r → ho_G p l e s m args below meth c yM E S0 0 6 (none, r) 55 [(0, .ref (E.2.1 0)), (1, .int x1), (2, .long x2), (5, .int x5)] [] S := by
  intro x1 x2 x5 S h H locs ls hR hl
  unfold f_X12_qTakes_55 at h
  refine lv_iload_n C.1 C.2.1 dX12_qTakes_55 rfl (lv_at hl 1 rfl) ?_
  refine lv_iconst (v := (2 : Int32)) C.1 C.2.1 dX12_qTakes_56 (by decide) ?_
  refine lv_icmp_ne (tgt := 75) C.1 C.2.1 dX12_qTakes_57 (by decide) (fun hc => ?_) (fun hc => ?_)
  · replace h := if_f h hc
    exact w_X12_qTakes_75 C x1 x2 S h _ _ _ hR (lv_sub hl [0, 1, 2] rfl)
  · replace h := if_t h hc
    refine lv_iload C.1 C.2.1 dX12_qTakes_60 (lv_at hl 3 rfl) ?_
    refine lv_if_eq (tgt := 75) C.1 C.2.1 dX12_qTakes_62 (by decide) (fun hc => ?_) (fun hc => ?_)
    · replace h := if_t h hc
      exact w_X12_qTakes_75 C x1 x2 S h _ _ _ hR (lv_sub hl [0, 1, 2] rfl)
    · replace h := if_f h hc
      refine lv_aload_n C.1 C.2.1 dX12_qTakes_65 rfl (lv_at hl 0 rfl) ?_
      refine lv_dup C.1 C.2.1 dX12_qTakes_66 rfl ?_
      refine ho_getJ C cf12 fM_677 hR aM_0 dX12_qTakes_67 ?_
      refine lv_lconst (v := (1 : Int64)) C.1 C.2.1 dX12_qTakes_70 (by decide) ?_
      refine lv_ladd C.1 C.2.1 dX12_qTakes_71 ?_
      obtain ⟨S1, e1, h⟩ := le1_ok h
      refine hr_putJ C cf12 fM_677 hR aM_0 e1 dX12_qTakes_72 (fun H locs hR => ?_)
      exact w_X12_qTakes_75 C x1 x2 S1 h _ _ _ hR (lv_sub hl [0, 1, 2] rfl)
def f_X12_qTakes_48 (x1 : Int32) (x2 : Int64) (x4 : Int32) (x5 : Int32) (S : Hp) : Option Hp :=
  le1 (ho_sJ S 0 107 (x4.toInt64)) (fun S1 => f_X12_qTakes_55 x1 x2 x5 S1)
set_option maxHeartbeats 4000000 in
set_option maxRecDepth 100000 in
theorem w_X12_qTakes_48 {p : Program} {l : Launch} {e : Env} {s : State} {m : MethodId} {args : Array Value} {below : List Frame} {meth : Method} {c : Code} {E : Ev} {S0 : Hp} {r : Hp} (C : ho_I p s m args meth c RX12 cX12_qTakes 6 none) :
    ∀ (x1 : Int32) (x2 : Int64) (x4 : Int32) (x5 : Int32) (S : Hp), f_X12_qTakes_48 x1 x2 x4 x5 S = some r → ho_G p l e s m args below meth c yM E S0 0 6 (none, r) 48 [(0, .ref (E.2.1 0)), (1, .int x1), (2, .long x2), (4, .int x4), (5, .int x5)] [] S := by
  intro x1 x2 x4 x5 S h H locs ls hR hl
  unfold f_X12_qTakes_48 at h
  refine lv_aload_n C.1 C.2.1 dX12_qTakes_48 rfl (lv_at hl 0 rfl) ?_
  refine lv_iload C.1 C.2.1 dX12_qTakes_49 (lv_at hl 3 rfl) ?_
  refine lv_i2l (v := (x4.toInt64)) C.1 C.2.1 dX12_qTakes_51 rfl ?_
  obtain ⟨S1, e1, h⟩ := le1_ok h
  refine hr_putJ C cf12 fM_677 hR aM_0 e1 dX12_qTakes_52 (fun H locs hR => ?_)
  exact w_X12_qTakes_55 C x1 x2 x5 S1 h _ _ _ hR (lv_sub hl [0, 1, 2, 4] rfl)
def f_X12_qTakes_38 (x1 : Int32) (x2 : Int64) (x4 : Int32) (x5 : Int32) (S : Hp) : Option Hp :=
  if x1 = (1 : Int32) then if x5 = 0 then f_X12_qTakes_55 x1 x2 x5 S else f_X12_qTakes_48 x1 x2 x4 x5 S else f_X12_qTakes_55 x1 x2 x5 S
set_option maxHeartbeats 4000000 in
set_option maxRecDepth 100000 in
theorem w_X12_qTakes_38 {p : Program} {l : Launch} {e : Env} {s : State} {m : MethodId} {args : Array Value} {below : List Frame} {meth : Method} {c : Code} {E : Ev} {S0 : Hp} {r : Hp} (C : ho_I p s m args meth c RX12 cX12_qTakes 6 none) :
    ∀ (x1 : Int32) (x2 : Int64) (x4 : Int32) (x5 : Int32) (S : Hp), f_X12_qTakes_38 x1 x2 x4 x5 S = some r → ho_G p l e s m args below meth c yM E S0 0 6 (none, r) 38 [(0, .ref (E.2.1 0)), (1, .int x1), (2, .long x2), (4, .int x4), (5, .int x5)] [] S := by
  intro x1 x2 x4 x5 S h H locs ls hR hl
  unfold f_X12_qTakes_38 at h
  refine lv_iload_n C.1 C.2.1 dX12_qTakes_38 rfl (lv_at hl 1 rfl) ?_
  refine lv_iconst (v := (1 : Int32)) C.1 C.2.1 dX12_qTakes_39 (by decide) ?_
  refine lv_icmp_ne (tgt := 55) C.1 C.2.1 dX12_qTakes_40 (by decide) (fun hc => ?_) (fun hc => ?_)
  · replace h := if_f h hc
    exact w_X12_qTakes_55 C x1 x2 x5 S h _ _ _ hR (lv_sub hl [0, 1, 2, 4] rfl)
  · replace h := if_t h hc
    refine lv_iload C.1 C.2.1 dX12_qTakes_43 (lv_at hl 4 rfl) ?_
    refine lv_if_eq (tgt := 55) C.1 C.2.1 dX12_qTakes_45 (by decide) (fun hc => ?_) (fun hc => ?_)
    · replace h := if_t h hc
      exact w_X12_qTakes_55 C x1 x2 x5 S h _ _ _ hR (lv_sub hl [0, 1, 2, 4] rfl)
    · replace h := if_f h hc
      exact w_X12_qTakes_48 C x1 x2 x4 x5 S h _ _ _ hR (lv_sub hl [0, 1, 2, 3, 4] rfl)
def f_X12_qTakes_16 (x1 : Int32) (x2 : Int64) (x4 : Int32) (z0 : Int32) (S : Hp) : Option Hp :=
  if x1 = 0 then if z0 = 0 then f_X12_qTakes_38 x1 x2 x4 z0 S else if (lg_cmp (S.2.1 0 107) (-1 : Int64)) = 0 then f_X12_qTakes_48 x1 x2 x4 z0 S else f_X12_qTakes_38 x1 x2 x4 z0 S else f_X12_qTakes_38 x1 x2 x4 z0 S
set_option maxHeartbeats 4000000 in
set_option maxRecDepth 100000 in
theorem w_X12_qTakes_16 {p : Program} {l : Launch} {e : Env} {s : State} {m : MethodId} {args : Array Value} {below : List Frame} {meth : Method} {c : Code} {E : Ev} {S0 : Hp} {r : Hp} (C : ho_I p s m args meth c RX12 cX12_qTakes 6 none) :
    ∀ (x1 : Int32) (x2 : Int64) (x4 : Int32) (z0 : Int32) (S : Hp), f_X12_qTakes_16 x1 x2 x4 z0 S = some r → ho_G p l e s m args below meth c yM E S0 0 6 (none, r) 16 [(0, .ref (E.2.1 0)), (1, .int x1), (2, .long x2), (4, .int x4)] [.int z0] S := by
  intro x1 x2 x4 z0 S h H locs ls hR hl
  unfold f_X12_qTakes_16 at h
  refine lv_istore (lv' := [(5, .int z0), (0, .ref (E.2.1 0)), (1, .int x1), (2, .long x2), (4, .int x4)]) C.1 C.2.1 dX12_qTakes_16 hl (by decide) rfl (fun ls hl => ?_)
  refine lv_iload_n C.1 C.2.1 dX12_qTakes_18 rfl (lv_at hl 2 rfl) ?_
  refine lv_if_ne (tgt := 38) C.1 C.2.1 dX12_qTakes_19 (by decide) (fun hc => ?_) (fun hc => ?_)
  · replace h := if_f h hc
    exact w_X12_qTakes_38 C x1 x2 x4 z0 S h _ _ _ hR (lv_sub hl [1, 2, 3, 4, 0] rfl)
  · replace h := if_t h hc
    refine lv_iload C.1 C.2.1 dX12_qTakes_22 (lv_at hl 0 rfl) ?_
    refine lv_if_eq (tgt := 38) C.1 C.2.1 dX12_qTakes_24 (by decide) (fun hc => ?_) (fun hc => ?_)
    · replace h := if_t h hc
      exact w_X12_qTakes_38 C x1 x2 x4 z0 S h _ _ _ hR (lv_sub hl [1, 2, 3, 4, 0] rfl)
    · replace h := if_f h hc
      refine lv_aload_n C.1 C.2.1 dX12_qTakes_27 rfl (lv_at hl 1 rfl) ?_
      refine ho_getJ C cf12 fM_677 hR aM_0 dX12_qTakes_28 ?_
      refine lv_ldc2 (v := (-1 : Int64)) C.1 C.2.1 C.2.2.2.2.1 (C.2.2.2.2.2.1 _ kc_RX12_680) dX12_qTakes_31 ?_
      refine W.lcmp C.1 C.2.1 dX12_qTakes_34 ?_
      refine lv_if_eq (tgt := 48) C.1 C.2.1 dX12_qTakes_35 (by decide) (fun hc => ?_) (fun hc => ?_)
      · replace h := if_t h hc
        exact w_X12_qTakes_48 C x1 x2 x4 z0 S h _ _ _ hR (lv_sub hl [1, 2, 3, 4, 0] rfl)
      · replace h := if_f h hc
        exact w_X12_qTakes_38 C x1 x2 x4 z0 S h _ _ _ hR (lv_sub hl [1, 2, 3, 4, 0] rfl)
def f_X12_qTakes_15 (x1 : Int32) (x2 : Int64) (x4 : Int32) (S : Hp) : Option Hp :=
  f_X12_qTakes_16 x1 x2 x4 (0 : Int32) S
set_option maxHeartbeats 4000000 in
set_option maxRecDepth 100000 in
theorem w_X12_qTakes_15 {p : Program} {l : Launch} {e : Env} {s : State} {m : MethodId} {args : Array Value} {below : List Frame} {meth : Method} {c : Code} {E : Ev} {S0 : Hp} {r : Hp} (C : ho_I p s m args meth c RX12 cX12_qTakes 6 none) :
    ∀ (x1 : Int32) (x2 : Int64) (x4 : Int32) (S : Hp), f_X12_qTakes_15 x1 x2 x4 S = some r → ho_G p l e s m args below meth c yM E S0 0 6 (none, r) 15 [(0, .ref (E.2.1 0)), (1, .int x1), (2, .long x2), (4, .int x4)] [] S := by
  intro x1 x2 x4 S h H locs ls hR hl
  unfold f_X12_qTakes_15 at h
  refine lv_iconst (v := (0 : Int32)) C.1 C.2.1 dX12_qTakes_15 (by decide) ?_
  exact w_X12_qTakes_16 C x1 x2 x4 (0 : Int32) S h _ _ _ hR (lv_sub hl [0, 1, 2, 3] rfl)
def f_X12_qTakes (x1 : Int32) (x2 : Int64) (x4 : Int32) (S : Hp) : Option Hp :=
  if (3 : Int32) ≤ x1 then f_X12_qTakes_15 x1 x2 x4 S else if (lg_cmp x2 (1 : Int64)) = 0 then f_X12_qTakes_16 x1 x2 x4 (1 : Int32) S else f_X12_qTakes_15 x1 x2 x4 S
set_option maxHeartbeats 4000000 in
set_option maxRecDepth 100000 in
theorem c_X12_qTakes (l : Launch) (E : Ev) (x1 : Int32) (x2 : Int64) (x4 : Int32) (S : Hp) (r : Hp) (h : f_X12_qTakes x1 x2 x4 S = some r) : ho_M l yM E yX12_qTakes cX12_qTakes 6 none 0 [.ref (E.2.1 0), .int x1, .long x2, .int x4] S (none, r) := by
  refine ho_in (by decide) (Nat.le_of_ble_eq_true rfl) ?_
  intro p e s m args below meth c C hR ls hl
  have C : ho_I p s m args meth c RX12 cX12_qTakes 6 none := C
  have hl : lv_has ls 6 [(0, .ref (E.2.1 0)), (1, .int x1), (2, .long x2), (4, .int x4)] := hl
  unfold f_X12_qTakes at h
  refine lv_iload_n C.1 C.2.1 dX12_qTakes_0 rfl (lv_at hl 1 rfl) ?_
  refine lv_iconst (v := (3 : Int32)) C.1 C.2.1 dX12_qTakes_1 (by decide) ?_
  refine lv_icmp_ge (tgt := 15) C.1 C.2.1 dX12_qTakes_2 (by decide) (fun hc => ?_) (fun hc => ?_)
  · replace h := if_t h hc
    exact w_X12_qTakes_15 C x1 x2 x4 S h _ _ _ hR (lv_sub hl [0, 1, 2, 3] rfl)
  · replace h := if_f h hc
    refine lv_lload_n C.1 C.2.1 dX12_qTakes_5 rfl (lv_at hl 2 rfl) ?_
    refine lv_lconst (v := (1 : Int64)) C.1 C.2.1 dX12_qTakes_6 (by decide) ?_
    refine W.lcmp C.1 C.2.1 dX12_qTakes_7 ?_
    refine lv_if_ne (tgt := 15) C.1 C.2.1 dX12_qTakes_8 (by decide) (fun hc => ?_) (fun hc => ?_)
    · replace h := if_f h hc
      exact w_X12_qTakes_15 C x1 x2 x4 S h _ _ _ hR (lv_sub hl [0, 1, 2, 3] rfl)
    · replace h := if_t h hc
      refine lv_iconst (v := (1 : Int32)) C.1 C.2.1 dX12_qTakes_11 (by decide) ?_
      refine lv_goto (tgt := 16) C.1 C.2.1 dX12_qTakes_12 (by decide) ?_
      exact w_X12_qTakes_16 C x1 x2 x4 (1 : Int32) S h _ _ _ hR (lv_sub hl [0, 1, 2, 3] rfl)
theorem dX12_ask_0 : decode cX12_ask 0 = .ok (.aload_n 0, 1) := by decide +kernel
theorem dX12_ask_1 : decode cX12_ask 1 = .ok (.getfield 397, 3) := by decide +kernel
theorem dX12_ask_4 : decode cX12_ask 4 = .ok (.ifCond .ne 12, 3) := by decide +kernel
theorem dX12_ask_7 : decode cX12_ask 7 = .ok (.aload_n 0, 1) := by decide +kernel
theorem dX12_ask_8 : decode cX12_ask 8 = .ok (.iconst 0, 1) := by decide +kernel
theorem dX12_ask_9 : decode cX12_ask 9 = .ok (.putfield 261, 3) := by decide +kernel
theorem dX12_ask_12 : decode cX12_ask 12 = .ok (.ldc2_w 685, 3) := by decide +kernel
theorem dX12_ask_15 : decode cX12_ask 15 = .ok (.lreturn, 1) := by decide +kernel
theorem dX12_ask_16 : decode cX12_ask 16 = .ok (.aload_n 0, 1) := by decide +kernel
theorem dX12_ask_17 : decode cX12_ask 17 = .ok (.aload_n 0, 1) := by decide +kernel
theorem dX12_ask_18 : decode cX12_ask 18 = .ok (.getfield 261, 3) := by decide +kernel
theorem dX12_ask_21 : decode cX12_ask 21 = .ok (.putfield 273, 3) := by decide +kernel
theorem dX12_ask_24 : decode cX12_ask 24 = .ok (.aload_n 0, 1) := by decide +kernel
theorem dX12_ask_25 : decode cX12_ask 25 = .ok (.iconst 0, 1) := by decide +kernel
theorem dX12_ask_26 : decode cX12_ask 26 = .ok (.putfield 261, 3) := by decide +kernel
theorem dX12_ask_29 : decode cX12_ask 29 = .ok (.aload_n 0, 1) := by decide +kernel
theorem dX12_ask_30 : decode cX12_ask 30 = .ok (.iconst 0, 1) := by decide +kernel
theorem dX12_ask_31 : decode cX12_ask 31 = .ok (.putfield 270, 3) := by decide +kernel
theorem dX12_ask_34 : decode cX12_ask 34 = .ok (.aload_n 0, 1) := by decide +kernel
theorem dX12_ask_35 : decode cX12_ask 35 = .ok (.iconst (-1), 1) := by decide +kernel
theorem dX12_ask_36 : decode cX12_ask 36 = .ok (.putfield 284, 3) := by decide +kernel
theorem dX12_ask_39 : decode cX12_ask 39 = .ok (.aload_n 0, 1) := by decide +kernel
theorem dX12_ask_40 : decode cX12_ask 40 = .ok (.iconst 0, 1) := by decide +kernel
theorem dX12_ask_41 : decode cX12_ask 41 = .ok (.putfield 264, 3) := by decide +kernel
theorem dX12_ask_44 : decode cX12_ask 44 = .ok (.aload_n 0, 1) := by decide +kernel
theorem dX12_ask_45 : decode cX12_ask 45 = .ok (.iconst (-1), 1) := by decide +kernel
theorem dX12_ask_46 : decode cX12_ask 46 = .ok (.putfield 267, 3) := by decide +kernel
theorem dX12_ask_49 : decode cX12_ask 49 = .ok (.aload_n 0, 1) := by decide +kernel
theorem dX12_ask_50 : decode cX12_ask 50 = .ok (.iconst 2, 1) := by decide +kernel
theorem dX12_ask_51 : decode cX12_ask 51 = .ok (.putfield 319, 3) := by decide +kernel
theorem dX12_ask_54 : decode cX12_ask 54 = .ok (.aload_n 0, 1) := by decide +kernel
theorem dX12_ask_55 : decode cX12_ask 55 = .ok (.iconst 0, 1) := by decide +kernel
theorem dX12_ask_56 : decode cX12_ask 56 = .ok (.putfield 352, 3) := by decide +kernel
theorem dX12_ask_59 : decode cX12_ask 59 = .ok (.aload_n 0, 1) := by decide +kernel
theorem dX12_ask_60 : decode cX12_ask 60 = .ok (.iconst 0, 1) := by decide +kernel
theorem dX12_ask_61 : decode cX12_ask 61 = .ok (.putfield 355, 3) := by decide +kernel
theorem dX12_ask_64 : decode cX12_ask 64 = .ok (.aload_n 0, 1) := by decide +kernel
theorem dX12_ask_65 : decode cX12_ask 65 = .ok (.iconst 0, 1) := by decide +kernel
theorem dX12_ask_66 : decode cX12_ask 66 = .ok (.putfield 358, 3) := by decide +kernel
theorem dX12_ask_69 : decode cX12_ask 69 = .ok (.aload_n 0, 1) := by decide +kernel
theorem dX12_ask_70 : decode cX12_ask 70 = .ok (.iconst 0, 1) := by decide +kernel
theorem dX12_ask_71 : decode cX12_ask 71 = .ok (.putfield 361, 3) := by decide +kernel
theorem dX12_ask_74 : decode cX12_ask 74 = .ok (.aload_n 0, 1) := by decide +kernel
theorem dX12_ask_75 : decode cX12_ask 75 = .ok (.invokevirtual 687, 3) := by decide +kernel
theorem dX12_ask_78 : decode cX12_ask 78 = .ok (.istore_n 1, 1) := by decide +kernel
theorem dX12_ask_79 : decode cX12_ask 79 = .ok (.aload_n 0, 1) := by decide +kernel
theorem dX12_ask_80 : decode cX12_ask 80 = .ok (.getfield 264, 3) := by decide +kernel
theorem dX12_ask_83 : decode cX12_ask 83 = .ok (.ifCond .ne 15, 3) := by decide +kernel
theorem dX12_ask_86 : decode cX12_ask 86 = .ok (.iload_n 1, 1) := by decide +kernel
theorem dX12_ask_87 : decode cX12_ask 87 = .ok (.iconst 3, 1) := by decide +kernel
theorem dX12_ask_88 : decode cX12_ask 88 = .ok (.if_icmp .ge 10, 3) := by decide +kernel
theorem dX12_ask_91 : decode cX12_ask 91 = .ok (.aload_n 0, 1) := by decide +kernel
theorem dX12_ask_92 : decode cX12_ask 92 = .ok (.invokevirtual 690, 3) := by decide +kernel
theorem dX12_ask_95 : decode cX12_ask 95 = .ok (.goto 14, 3) := by decide +kernel
theorem dX12_ask_98 : decode cX12_ask 98 = .ok (.aload_n 0, 1) := by decide +kernel
theorem dX12_ask_99 : decode cX12_ask 99 = .ok (.getfield 264, 3) := by decide +kernel
theorem dX12_ask_102 : decode cX12_ask 102 = .ok (.ifCond .ne 7, 3) := by decide +kernel
theorem dX12_ask_105 : decode cX12_ask 105 = .ok (.aload_n 0, 1) := by decide +kernel
theorem dX12_ask_106 : decode cX12_ask 106 = .ok (.invokevirtual 364, 3) := by decide +kernel
theorem dX12_ask_109 : decode cX12_ask 109 = .ok (.aload_n 0, 1) := by decide +kernel
theorem dX12_ask_110 : decode cX12_ask 110 = .ok (.getfield 264, 3) := by decide +kernel
theorem dX12_ask_113 : decode cX12_ask 113 = .ok (.ifCond .ne 20, 3) := by decide +kernel
theorem dX12_ask_116 : decode cX12_ask 116 = .ok (.aload_n 0, 1) := by decide +kernel
theorem dX12_ask_117 : decode cX12_ask 117 = .ok (.invokevirtual 276, 3) := by decide +kernel
theorem dX12_ask_120 : decode cX12_ask 120 = .ok (.iconst (-1), 1) := by decide +kernel
theorem dX12_ask_121 : decode cX12_ask 121 = .ok (.if_icmp .eq 12, 3) := by decide +kernel
theorem dX12_ask_124 : decode cX12_ask 124 = .ok (.aload_n 0, 1) := by decide +kernel
theorem dX12_ask_125 : decode cX12_ask 125 = .ok (.iconst 1, 1) := by decide +kernel
theorem dX12_ask_126 : decode cX12_ask 126 = .ok (.aload_n 0, 1) := by decide +kernel
theorem dX12_ask_127 : decode cX12_ask 127 = .ok (.getfield 270, 3) := by decide +kernel
theorem dX12_ask_130 : decode cX12_ask 130 = .ok (.invokevirtual 294, 3) := by decide +kernel
theorem dX12_ask_133 : decode cX12_ask 133 = .ok (.aload_n 0, 1) := by decide +kernel
theorem dX12_ask_134 : decode cX12_ask 134 = .ok (.aload_n 0, 1) := by decide +kernel
theorem dX12_ask_135 : decode cX12_ask 135 = .ok (.getfield 264, 3) := by decide +kernel
theorem dX12_ask_138 : decode cX12_ask 138 = .ok (.putfield 391, 3) := by decide +kernel
theorem dX12_ask_141 : decode cX12_ask 141 = .ok (.aload_n 0, 1) := by decide +kernel
theorem dX12_ask_142 : decode cX12_ask 142 = .ok (.aload_n 0, 1) := by decide +kernel
theorem dX12_ask_143 : decode cX12_ask 143 = .ok (.getfield 267, 3) := by decide +kernel
theorem dX12_ask_146 : decode cX12_ask 146 = .ok (.putfield 13, 3) := by decide +kernel
theorem dX12_ask_149 : decode cX12_ask 149 = .ok (.aload_n 0, 1) := by decide +kernel
theorem dX12_ask_150 : decode cX12_ask 150 = .ok (.getfield 264, 3) := by decide +kernel
theorem dX12_ask_153 : decode cX12_ask 153 = .ok (.ifCond .eq 7, 3) := by decide +kernel
theorem dX12_ask_156 : decode cX12_ask 156 = .ok (.ldc2_w 685, 3) := by decide +kernel
theorem dX12_ask_159 : decode cX12_ask 159 = .ok (.lreturn, 1) := by decide +kernel
theorem dX12_ask_160 : decode cX12_ask 160 = .ok (.aload_n 0, 1) := by decide +kernel
theorem dX12_ask_161 : decode cX12_ask 161 = .ok (.iload_n 1, 1) := by decide +kernel
theorem dX12_ask_162 : decode cX12_ask 162 = .ok (.iconst 2, 1) := by decide +kernel
theorem dX12_ask_163 : decode cX12_ask 163 = .ok (.if_icmp .ge 9, 3) := by decide +kernel
theorem dX12_ask_166 : decode cX12_ask 166 = .ok (.ldc2_w 680, 3) := by decide +kernel
theorem dX12_ask_169 : decode cX12_ask 169 = .ok (.goto 4, 3) := by decide +kernel
theorem dX12_ask_172 : decode cX12_ask 172 = .ok (.lconst 0, 1) := by decide +kernel
theorem dX12_ask_173 : decode cX12_ask 173 = .ok (.putfield 677, 3) := by decide +kernel
theorem dX12_ask_176 : decode cX12_ask 176 = .ok (.aload_n 0, 1) := by decide +kernel
theorem dX12_ask_177 : decode cX12_ask 177 = .ok (.iconst 1, 1) := by decide +kernel
theorem dX12_ask_178 : decode cX12_ask 178 = .ok (.putfield 682, 3) := by decide +kernel
theorem dX12_ask_181 : decode cX12_ask 181 = .ok (.iconst 0, 1) := by decide +kernel
theorem dX12_ask_182 : decode cX12_ask 182 = .ok (.istore_n 2, 1) := by decide +kernel
theorem dX12_ask_183 : decode cX12_ask 183 = .ok (.iload_n 2, 1) := by decide +kernel
theorem dX12_ask_184 : decode cX12_ask 184 = .ok (.aload_n 0, 1) := by decide +kernel
theorem dX12_ask_185 : decode cX12_ask 185 = .ok (.invokevirtual 410, 3) := by decide +kernel
theorem dX12_ask_188 : decode cX12_ask 188 = .ok (.if_icmp .ge 63, 3) := by decide +kernel
theorem dX12_ask_191 : decode cX12_ask 191 = .ok (.iconst 0, 1) := by decide +kernel
theorem dX12_ask_192 : decode cX12_ask 192 = .ok (.istore_n 3, 1) := by decide +kernel
theorem dX12_ask_193 : decode cX12_ask 193 = .ok (.iload_n 3, 1) := by decide +kernel
theorem dX12_ask_194 : decode cX12_ask 194 = .ok (.aload_n 0, 1) := by decide +kernel
theorem dX12_ask_195 : decode cX12_ask 195 = .ok (.invokevirtual 413, 3) := by decide +kernel
theorem dX12_ask_198 : decode cX12_ask 198 = .ok (.if_icmp .ge 31, 3) := by decide +kernel
theorem dX12_ask_201 : decode cX12_ask 201 = .ok (.aload_n 0, 1) := by decide +kernel
theorem dX12_ask_202 : decode cX12_ask 202 = .ok (.getfield 145, 3) := by decide +kernel
theorem dX12_ask_205 : decode cX12_ask 205 = .ok (.bipush 6, 2) := by decide +kernel
theorem dX12_ask_207 : decode cX12_ask 207 = .ok (.iload_n 2, 1) := by decide +kernel
theorem dX12_ask_208 : decode cX12_ask 208 = .ok (.imul, 1) := by decide +kernel
theorem dX12_ask_209 : decode cX12_ask 209 = .ok (.iload_n 3, 1) := by decide +kernel
theorem dX12_ask_210 : decode cX12_ask 210 = .ok (.iadd, 1) := by decide +kernel
theorem dX12_ask_211 : decode cX12_ask 211 = .ok (.aload_n 0, 1) := by decide +kernel
theorem dX12_ask_212 : decode cX12_ask 212 = .ok (.iload_n 2, 1) := by decide +kernel
theorem dX12_ask_213 : decode cX12_ask 213 = .ok (.iload_n 3, 1) := by decide +kernel
theorem dX12_ask_214 : decode cX12_ask 214 = .ok (.aload_n 0, 1) := by decide +kernel
theorem dX12_ask_215 : decode cX12_ask 215 = .ok (.iload_n 3, 1) := by decide +kernel
theorem dX12_ask_216 : decode cX12_ask 216 = .ok (.invokevirtual 441, 3) := by decide +kernel
theorem dX12_ask_219 : decode cX12_ask 219 = .ok (.invokevirtual 445, 3) := by decide +kernel
theorem dX12_ask_222 : decode cX12_ask 222 = .ok (.iastore, 1) := by decide +kernel
theorem dX12_ask_223 : decode cX12_ask 223 = .ok (.iinc 3 1, 3) := by decide +kernel
theorem dX12_ask_226 : decode cX12_ask 226 = .ok (.goto (-33), 3) := by decide +kernel
theorem dX12_ask_229 : decode cX12_ask 229 = .ok (.aload_n 0, 1) := by decide +kernel
theorem dX12_ask_230 : decode cX12_ask 230 = .ok (.getfield 145, 3) := by decide +kernel
theorem dX12_ask_233 : decode cX12_ask 233 = .ok (.bipush 6, 2) := by decide +kernel
theorem dX12_ask_235 : decode cX12_ask 235 = .ok (.iload_n 2, 1) := by decide +kernel
theorem dX12_ask_236 : decode cX12_ask 236 = .ok (.imul, 1) := by decide +kernel
theorem dX12_ask_237 : decode cX12_ask 237 = .ok (.iconst 5, 1) := by decide +kernel
theorem dX12_ask_238 : decode cX12_ask 238 = .ok (.iadd, 1) := by decide +kernel
theorem dX12_ask_239 : decode cX12_ask 239 = .ok (.aload_n 0, 1) := by decide +kernel
theorem dX12_ask_240 : decode cX12_ask 240 = .ok (.iload_n 2, 1) := by decide +kernel
theorem dX12_ask_241 : decode cX12_ask 241 = .ok (.invokevirtual 461, 3) := by decide +kernel
theorem dX12_ask_244 : decode cX12_ask 244 = .ok (.iastore, 1) := by decide +kernel
theorem dX12_ask_245 : decode cX12_ask 245 = .ok (.iinc 2 1, 3) := by decide +kernel
theorem dX12_ask_248 : decode cX12_ask 248 = .ok (.goto (-65), 3) := by decide +kernel
theorem dX12_ask_251 : decode cX12_ask 251 = .ok (.aload_n 0, 1) := by decide +kernel
theorem dX12_ask_252 : decode cX12_ask 252 = .ok (.iconst 2, 1) := by decide +kernel
theorem dX12_ask_253 : decode cX12_ask 253 = .ok (.putfield 319, 3) := by decide +kernel
theorem dX12_ask_256 : decode cX12_ask 256 = .ok (.iconst 0, 1) := by decide +kernel
theorem dX12_ask_257 : decode cX12_ask 257 = .ok (.istore_n 2, 1) := by decide +kernel
theorem dX12_ask_258 : decode cX12_ask 258 = .ok (.iload_n 2, 1) := by decide +kernel
theorem dX12_ask_259 : decode cX12_ask 259 = .ok (.aload_n 0, 1) := by decide +kernel
theorem dX12_ask_260 : decode cX12_ask 260 = .ok (.invokevirtual 410, 3) := by decide +kernel
theorem dX12_ask_263 : decode cX12_ask 263 = .ok (.if_icmp .ge 20, 3) := by decide +kernel
theorem dX12_ask_266 : decode cX12_ask 266 = .ok (.aload_n 0, 1) := by decide +kernel
theorem dX12_ask_267 : decode cX12_ask 267 = .ok (.iload_n 1, 1) := by decide +kernel
theorem dX12_ask_268 : decode cX12_ask 268 = .ok (.aload_n 0, 1) := by decide +kernel
theorem dX12_ask_269 : decode cX12_ask 269 = .ok (.iload_n 2, 1) := by decide +kernel
theorem dX12_ask_270 : decode cX12_ask 270 = .ok (.invokevirtual 693, 3) := by decide +kernel
theorem dX12_ask_273 : decode cX12_ask 273 = .ok (.iload_n 2, 1) := by decide +kernel
theorem dX12_ask_274 : decode cX12_ask 274 = .ok (.invokevirtual 697, 3) := by decide +kernel
theorem dX12_ask_277 : decode cX12_ask 277 = .ok (.iinc 2 1, 3) := by decide +kernel
theorem dX12_ask_280 : decode cX12_ask 280 = .ok (.goto (-22), 3) := by decide +kernel
theorem dX12_ask_283 : decode cX12_ask 283 = .ok (.aload_n 0, 1) := by decide +kernel
theorem dX12_ask_284 : decode cX12_ask 284 = .ok (.getfield 677, 3) := by decide +kernel
theorem dX12_ask_287 : decode cX12_ask 287 = .ok (.lreturn, 1) := by decide +kernel
def f_X12_ask_258 : Nat → Int32 → Int32 → Hp → Option (Int64 × Hp)
  | 0, _, _, _ => none
  | k + 1, x1, x2, S => ob2 (f_X12_trickMany S) (fun r1 S1 => if r1 ≤ x2 then some ((S1.2.1 0 107), S1) else ob2 (f_X12_qTold x2 S1) (fun r2 S2 => ob (f_X12_qTakes x1 r2 x2 S2) (fun S3 => le1 (x2 + (1 : Int32)) (fun v4 => f_X12_ask_258 k x1 v4 S3))))
set_option maxHeartbeats 4000000 in
set_option maxRecDepth 100000 in
theorem w_X12_ask_258 {p : Program} {l : Launch} {e : Env} {s : State} {m : MethodId} {args : Array Value} {below : List Frame} {meth : Method} {c : Code} {E : Ev} {S0 : Hp} {r : (Int64 × Hp)} (C : ho_I p s m args meth c RX12 cX12_ask 4 (some .long)) :
    ∀ (k : Nat) (x1 : Int32) (x2 : Int32) (S : Hp), f_X12_ask_258 k x1 x2 S = some r → ho_G p l e s m args below meth c yM E S0 9 4 (some (.long r.1), r.2) 258 [(0, .ref (E.2.1 0)), (1, .int x1), (2, .int x2)] [] S := by
  intro k
  induction k with
  | zero =>
    intro x1 x2 S h
    exact absurd (show (none : Option (Int64 × Hp)) = some r from h) (by simp)
  | succ k ih =>
    intro x1 x2 S h H locs ls hR hl
    rw [f_X12_ask_258] at h
    refine lv_iload_n C.1 C.2.1 dX12_ask_258 rfl (lv_at hl 2 rfl) ?_
    refine lv_aload_n C.1 C.2.1 dX12_ask_259 rfl (lv_at hl 0 rfl) ?_
    obtain ⟨r1, S1, h1, h⟩ := ob2_ok h
    refine hr_Vi (v := r1) (S' := S1) (As := []) (rest := [.int x2]) C cf12 (c_X12_trickMany l E _ _ h1) yv_X12_trickMany lk_RX12_410 rfl aM_0 rfl rfl hl.1 (Nat.le_of_ble_eq_true rfl) (by decide) (by decide) hR (ho_A hR) dX12_ask_260 (fun H locs hR => ?_)
    refine lv_icmp_ge (tgt := 283) C.1 C.2.1 dX12_ask_263 (by decide) (fun hc => ?_) (fun hc => ?_)
    · replace h := if_t h hc
      refine lv_aload_n C.1 C.2.1 dX12_ask_283 rfl (lv_at hl 0 rfl) ?_
      refine ho_getJ C cf12 fM_677 hR aM_0 dX12_ask_284 ?_
      exact ho_lret C hR h dX12_ask_287
    · replace h := if_f h hc
      refine lv_aload_n C.1 C.2.1 dX12_ask_266 rfl (lv_at hl 0 rfl) ?_
      refine lv_iload_n C.1 C.2.1 dX12_ask_267 rfl (lv_at hl 1 rfl) ?_
      refine lv_aload_n C.1 C.2.1 dX12_ask_268 rfl (lv_at hl 0 rfl) ?_
      refine lv_iload_n C.1 C.2.1 dX12_ask_269 rfl (lv_at hl 2 rfl) ?_
      obtain ⟨r2, S2, h2, h⟩ := ob2_ok h
      refine hr_Vl (w := r2) (S' := S2) (As := [.int x2]) (rest := [.int x1, .ref (E.2.1 0)]) C cf12 (c_X12_qTold l E x2 _ _ h2) yv_X12_qTold lk_RX12_693 rfl aM_0 rfl rfl hl.1 (Nat.le_of_ble_eq_true rfl) (by decide) (by decide) hR (ho_A hR) dX12_ask_270 (fun H locs hR => ?_)
      refine lv_iload_n C.1 C.2.1 dX12_ask_273 rfl (lv_at hl 2 rfl) ?_
      obtain ⟨S3, h3, h⟩ := ob_ok h
      refine hr_Vv (S' := S3) (As := [.int x1, .long r2, .int x2]) (rest := []) C cf12 (c_X12_qTakes l E x1 r2 x2 _ _ h3) yv_X12_qTakes lk_RX12_697 rfl aM_0 rfl rfl hl.1 (Nat.le_of_ble_eq_true rfl) (by decide) (by decide) hR (ho_A hR) dX12_ask_274 (fun H locs hR => ?_)
      obtain ⟨v4, e4, h⟩ := le1_ok h
      refine lv_iinc (v := v4) (lv' := [(2, .int v4), (0, .ref (E.2.1 0)), (1, .int x1)]) C.1 C.2.1 dX12_ask_277 hl (k := 2) rfl (by rw [e4]; rfl) (by decide) rfl (fun ls hl => ?_)
      refine lv_goto (tgt := 258) C.1 C.2.1 dX12_ask_280 (by decide) ?_
      exact ih x1 v4 S3 h _ _ _ hR (lv_sub hl [1, 2, 0] rfl)
def f_X12_ask_193 (K183 : Int32 → Int32 → Hp → Option (Int64 × Hp)) : Nat → Int32 → Int32 → Int32 → Hp → Option (Int64 × Hp)
  | 0, _, _, _, _ => none
  | k + 1, x1, x2, x3, S => ob2 (f_X12_watcherMany S) (fun r1 S1 => if r1 ≤ x3 then ob2 (f_X12_sightOf x2 S1) (fun r2 S2 => stI S2 59 36 (((6 : Int32) * x2) + (5 : Int32)) r2 (fun S3 => le1 (x2 + (1 : Int32)) (fun v4 => K183 x1 v4 S3))) else ob2 (f_X12_seatOf x3 S1) (fun r5 S5 => ob2 (f_X12_sightBy x2 x3 r5 S5) (fun r6 S6 => stI S6 59 36 (((6 : Int32) * x2) + x3) r6 (fun S7 => le1 (x3 + (1 : Int32)) (fun v8 => f_X12_ask_193 K183 k x1 x2 v8 S7)))))
set_option maxHeartbeats 4000000 in
set_option maxRecDepth 100000 in
theorem w_X12_ask_193 {p : Program} {l : Launch} {e : Env} {s : State} {m : MethodId} {args : Array Value} {below : List Frame} {meth : Method} {c : Code} {E : Ev} {S0 : Hp} {r : (Int64 × Hp)} (C : ho_I p s m args meth c RX12 cX12_ask 4 (some .long)) (K183 : Int32 → Int32 → Hp → Option (Int64 × Hp)) (hK183 : ∀ (y1 : Int32) (y2 : Int32) (S : Hp), K183 y1 y2 S = some r → ho_G p l e s m args below meth c yM E S0 9 4 (some (.long r.1), r.2) 183 [(0, .ref (E.2.1 0)), (1, .int y1), (2, .int y2)] [] S) :
    ∀ (k : Nat) (x1 : Int32) (x2 : Int32) (x3 : Int32) (S : Hp), f_X12_ask_193 K183 k x1 x2 x3 S = some r → ho_G p l e s m args below meth c yM E S0 9 4 (some (.long r.1), r.2) 193 [(0, .ref (E.2.1 0)), (1, .int x1), (2, .int x2), (3, .int x3)] [] S := by
  intro k
  induction k with
  | zero =>
    intro x1 x2 x3 S h
    exact absurd (show (none : Option (Int64 × Hp)) = some r from h) (by simp)
  | succ k ih =>
    intro x1 x2 x3 S h H locs ls hR hl
    rw [f_X12_ask_193] at h
    refine lv_iload_n C.1 C.2.1 dX12_ask_193 rfl (lv_at hl 3 rfl) ?_
    refine lv_aload_n C.1 C.2.1 dX12_ask_194 rfl (lv_at hl 0 rfl) ?_
    obtain ⟨r1, S1, h1, h⟩ := ob2_ok h
    refine hr_Vi (v := r1) (S' := S1) (As := []) (rest := [.int x3]) C cf12 (c_X12_watcherMany l E _ _ h1) yv_X12_watcherMany lk_RX12_413 rfl aM_0 rfl rfl hl.1 (Nat.le_of_ble_eq_true rfl) (by decide) (by decide) hR (ho_A hR) dX12_ask_195 (fun H locs hR => ?_)
    refine lv_icmp_ge (tgt := 229) C.1 C.2.1 dX12_ask_198 (by decide) (fun hc => ?_) (fun hc => ?_)
    · replace h := if_t h hc
      refine lv_aload_n C.1 C.2.1 dX12_ask_229 rfl (lv_at hl 0 rfl) ?_
      refine ho_getR (a' := 59) C cf12 fM_145 hR aM_0 rfl dX12_ask_230 ?_
      refine lv_bipush (v := (6 : Int32)) C.1 C.2.1 dX12_ask_233 (by decide) ?_
      refine lv_iload_n C.1 C.2.1 dX12_ask_235 rfl (lv_at hl 2 rfl) ?_
      refine lv_imul C.1 C.2.1 dX12_ask_236 ?_
      refine lv_iconst (v := (5 : Int32)) C.1 C.2.1 dX12_ask_237 (by decide) ?_
      refine lv_iadd C.1 C.2.1 dX12_ask_238 ?_
      refine lv_aload_n C.1 C.2.1 dX12_ask_239 rfl (lv_at hl 0 rfl) ?_
      refine lv_iload_n C.1 C.2.1 dX12_ask_240 rfl (lv_at hl 2 rfl) ?_
      obtain ⟨r2, S2, h2, h⟩ := ob2_ok h
      refine hr_Vi (v := r2) (S' := S2) (As := [.int x2]) (rest := [.int (((6 : Int32) * x2) + (5 : Int32)), .ref (E.2.1 59)]) C cf12 (c_X12_sightOf l E x2 _ _ h2) yv_X12_sightOf lk_RX12_461 rfl aM_0 rfl rfl hl.1 (Nat.le_of_ble_eq_true rfl) (by decide) (by decide) hR (ho_A hR) dX12_ask_241 (fun H locs hR => ?_)
      obtain ⟨S3, e3, hi3, h⟩ := stI_ok h
      refine hr_ist C hR aM_59 hi3 e3 dX12_ask_244 (fun H locs hR => ?_)
      obtain ⟨v4, e4, h⟩ := le1_ok h
      refine lv_iinc (v := v4) (lv' := [(2, .int v4), (0, .ref (E.2.1 0)), (1, .int x1), (3, .int x3)]) C.1 C.2.1 dX12_ask_245 hl (k := 2) rfl (by rw [e4]; rfl) (by decide) rfl (fun ls hl => ?_)
      refine lv_goto (tgt := 183) C.1 C.2.1 dX12_ask_248 (by decide) ?_
      exact hK183 x1 v4 S3 h _ _ _ hR (lv_sub hl [1, 2, 0] rfl)
    · replace h := if_f h hc
      refine lv_aload_n C.1 C.2.1 dX12_ask_201 rfl (lv_at hl 0 rfl) ?_
      refine ho_getR (a' := 59) C cf12 fM_145 hR aM_0 rfl dX12_ask_202 ?_
      refine lv_bipush (v := (6 : Int32)) C.1 C.2.1 dX12_ask_205 (by decide) ?_
      refine lv_iload_n C.1 C.2.1 dX12_ask_207 rfl (lv_at hl 2 rfl) ?_
      refine lv_imul C.1 C.2.1 dX12_ask_208 ?_
      refine lv_iload_n C.1 C.2.1 dX12_ask_209 rfl (lv_at hl 3 rfl) ?_
      refine lv_iadd C.1 C.2.1 dX12_ask_210 ?_
      refine lv_aload_n C.1 C.2.1 dX12_ask_211 rfl (lv_at hl 0 rfl) ?_
      refine lv_iload_n C.1 C.2.1 dX12_ask_212 rfl (lv_at hl 2 rfl) ?_
      refine lv_iload_n C.1 C.2.1 dX12_ask_213 rfl (lv_at hl 3 rfl) ?_
      refine lv_aload_n C.1 C.2.1 dX12_ask_214 rfl (lv_at hl 0 rfl) ?_
      refine lv_iload_n C.1 C.2.1 dX12_ask_215 rfl (lv_at hl 3 rfl) ?_
      obtain ⟨r5, S5, h5, h⟩ := ob2_ok h
      refine hr_Vi (v := r5) (S' := S5) (As := [.int x3]) (rest := [.int x3, .int x2, .ref (E.2.1 0), .int (((6 : Int32) * x2) + x3), .ref (E.2.1 59)]) C cf12 (c_X12_seatOf l E x3 _ _ h5) yv_X12_seatOf lk_RX12_441 rfl aM_0 rfl rfl hl.1 (Nat.le_of_ble_eq_true rfl) (by decide) (by decide) hR (ho_A hR) dX12_ask_216 (fun H locs hR => ?_)
      obtain ⟨r6, S6, h6, h⟩ := ob2_ok h
      refine hr_Vi (v := r6) (S' := S6) (As := [.int x2, .int x3, .int r5]) (rest := [.int (((6 : Int32) * x2) + x3), .ref (E.2.1 59)]) C cf12 (c_X12_sightBy l E x2 x3 r5 _ _ h6) yv_X12_sightBy lk_RX12_445 rfl aM_0 rfl rfl hl.1 (Nat.le_of_ble_eq_true rfl) (by decide) (by decide) hR (ho_A hR) dX12_ask_219 (fun H locs hR => ?_)
      obtain ⟨S7, e7, hi7, h⟩ := stI_ok h
      refine hr_ist C hR aM_59 hi7 e7 dX12_ask_222 (fun H locs hR => ?_)
      obtain ⟨v8, e8, h⟩ := le1_ok h
      refine lv_iinc (v := v8) (lv' := [(3, .int v8), (0, .ref (E.2.1 0)), (1, .int x1), (2, .int x2)]) C.1 C.2.1 dX12_ask_223 hl (k := 3) rfl (by rw [e8]; rfl) (by decide) rfl (fun ls hl => ?_)
      refine lv_goto (tgt := 193) C.1 C.2.1 dX12_ask_226 (by decide) ?_
      exact ih x1 x2 v8 S7 h _ _ _ hR (lv_sub hl [1, 2, 3, 0] rfl)
def f_X12_ask_183 : Nat → Int32 → Int32 → Hp → Option (Int64 × Hp)
  | 0, _, _, _ => none
  | k + 1, x1, x2, S => ob2 (f_X12_trickMany S) (fun r1 S1 => if r1 ≤ x2 then le1 (ho_sI S1 0 53 (2 : Int32)) (fun S2 => f_X12_ask_258 5000 x1 (0 : Int32) S2) else f_X12_ask_193 (f_X12_ask_183 k) 5000 x1 x2 (0 : Int32) S1)
set_option maxHeartbeats 4000000 in
set_option maxRecDepth 100000 in
theorem w_X12_ask_183 {p : Program} {l : Launch} {e : Env} {s : State} {m : MethodId} {args : Array Value} {below : List Frame} {meth : Method} {c : Code} {E : Ev} {S0 : Hp} {r : (Int64 × Hp)} (C : ho_I p s m args meth c RX12 cX12_ask 4 (some .long)) :
    ∀ (k : Nat) (x1 : Int32) (x2 : Int32) (S : Hp), f_X12_ask_183 k x1 x2 S = some r → ho_G p l e s m args below meth c yM E S0 9 4 (some (.long r.1), r.2) 183 [(0, .ref (E.2.1 0)), (1, .int x1), (2, .int x2)] [] S := by
  intro k
  induction k with
  | zero =>
    intro x1 x2 S h
    exact absurd (show (none : Option (Int64 × Hp)) = some r from h) (by simp)
  | succ k ih =>
    intro x1 x2 S h H locs ls hR hl
    rw [f_X12_ask_183] at h
    refine lv_iload_n C.1 C.2.1 dX12_ask_183 rfl (lv_at hl 2 rfl) ?_
    refine lv_aload_n C.1 C.2.1 dX12_ask_184 rfl (lv_at hl 0 rfl) ?_
    obtain ⟨r1, S1, h1, h⟩ := ob2_ok h
    refine hr_Vi (v := r1) (S' := S1) (As := []) (rest := [.int x2]) C cf12 (c_X12_trickMany l E _ _ h1) yv_X12_trickMany lk_RX12_410 rfl aM_0 rfl rfl hl.1 (Nat.le_of_ble_eq_true rfl) (by decide) (by decide) hR (ho_A hR) dX12_ask_185 (fun H locs hR => ?_)
    refine lv_icmp_ge (tgt := 251) C.1 C.2.1 dX12_ask_188 (by decide) (fun hc => ?_) (fun hc => ?_)
    · replace h := if_t h hc
      refine lv_aload_n C.1 C.2.1 dX12_ask_251 rfl (lv_at hl 0 rfl) ?_
      refine lv_iconst (v := (2 : Int32)) C.1 C.2.1 dX12_ask_252 (by decide) ?_
      obtain ⟨S2, e2, h⟩ := le1_ok h
      refine hr_putI C cf12 fM_319 hR aM_0 e2 dX12_ask_253 (fun H locs hR => ?_)
      refine lv_iconst (v := (0 : Int32)) C.1 C.2.1 dX12_ask_256 (by decide) ?_
      refine lv_istore_n (lv' := [(2, .int (0 : Int32)), (0, .ref (E.2.1 0)), (1, .int x1)]) C.1 C.2.1 dX12_ask_257 rfl hl (by decide) rfl (fun ls hl => ?_)
      exact w_X12_ask_258 C 5000 x1 (0 : Int32) S2 h _ _ _ hR (lv_sub hl [1, 2, 0] rfl)
    · replace h := if_f h hc
      refine lv_iconst (v := (0 : Int32)) C.1 C.2.1 dX12_ask_191 (by decide) ?_
      refine lv_istore_n (lv' := [(3, .int (0 : Int32)), (0, .ref (E.2.1 0)), (1, .int x1), (2, .int x2)]) C.1 C.2.1 dX12_ask_192 rfl hl (by decide) rfl (fun ls hl => ?_)
      exact w_X12_ask_193 C (f_X12_ask_183 k) ih 5000 x1 x2 (0 : Int32) S1 h _ _ _ hR (lv_sub hl [1, 2, 3, 0] rfl)
def f_X12_ask_173 (x1 : Int32) (z1 : Int64) (S : Hp) : Option (Int64 × Hp) :=
  le1 (ho_sJ S 0 107 z1) (fun S1 => le1 (ho_sI S1 0 108 (1 : Int32)) (fun S2 => f_X12_ask_183 5000 x1 (0 : Int32) S2))
set_option maxHeartbeats 4000000 in
set_option maxRecDepth 100000 in
theorem w_X12_ask_173 {p : Program} {l : Launch} {e : Env} {s : State} {m : MethodId} {args : Array Value} {below : List Frame} {meth : Method} {c : Code} {E : Ev} {S0 : Hp} {r : (Int64 × Hp)} (C : ho_I p s m args meth c RX12 cX12_ask 4 (some .long)) :
    ∀ (x1 : Int32) (z1 : Int64) (S : Hp), f_X12_ask_173 x1 z1 S = some r → ho_G p l e s m args below meth c yM E S0 9 4 (some (.long r.1), r.2) 173 [(0, .ref (E.2.1 0)), (1, .int x1)] [.long z1, .ref (E.2.1 0)] S := by
  intro x1 z1 S h H locs ls hR hl
  unfold f_X12_ask_173 at h
  obtain ⟨S1, e1, h⟩ := le1_ok h
  refine hr_putJ C cf12 fM_677 hR aM_0 e1 dX12_ask_173 (fun H locs hR => ?_)
  refine lv_aload_n C.1 C.2.1 dX12_ask_176 rfl (lv_at hl 0 rfl) ?_
  refine lv_iconst (v := (1 : Int32)) C.1 C.2.1 dX12_ask_177 (by decide) ?_
  obtain ⟨S2, e2, h⟩ := le1_ok h
  refine hr_putZ C cf12 fM_682 hR aM_0 (Or.inr rfl) e2 dX12_ask_178 (fun H locs hR => ?_)
  refine lv_iconst (v := (0 : Int32)) C.1 C.2.1 dX12_ask_181 (by decide) ?_
  refine lv_istore_n (lv' := [(2, .int (0 : Int32)), (0, .ref (E.2.1 0)), (1, .int x1)]) C.1 C.2.1 dX12_ask_182 rfl hl (by decide) rfl (fun ls hl => ?_)
  exact w_X12_ask_183 C 5000 x1 (0 : Int32) S2 h _ _ _ hR (lv_sub hl [1, 2, 0] rfl)
def f_X12_ask_133 (x1 : Int32) (S : Hp) : Option (Int64 × Hp) :=
  le1 (ho_sI S 0 7 (S.1 0 5)) (fun S1 => le1 (ho_sI S1 0 8 (S1.1 0 6)) (fun S2 => if (S2.1 0 5) = 0 then if (2 : Int32) ≤ x1 then f_X12_ask_173 x1 (0 : Int64) S2 else f_X12_ask_173 x1 (-1 : Int64) S2 else some ((-1000000000000000 : Int64), S2)))
set_option maxHeartbeats 4000000 in
set_option maxRecDepth 100000 in
theorem w_X12_ask_133 {p : Program} {l : Launch} {e : Env} {s : State} {m : MethodId} {args : Array Value} {below : List Frame} {meth : Method} {c : Code} {E : Ev} {S0 : Hp} {r : (Int64 × Hp)} (C : ho_I p s m args meth c RX12 cX12_ask 4 (some .long)) :
    ∀ (x1 : Int32) (S : Hp), f_X12_ask_133 x1 S = some r → ho_G p l e s m args below meth c yM E S0 9 4 (some (.long r.1), r.2) 133 [(0, .ref (E.2.1 0)), (1, .int x1)] [] S := by
  intro x1 S h H locs ls hR hl
  unfold f_X12_ask_133 at h
  refine lv_aload_n C.1 C.2.1 dX12_ask_133 rfl (lv_at hl 0 rfl) ?_
  refine lv_aload_n C.1 C.2.1 dX12_ask_134 rfl (lv_at hl 0 rfl) ?_
  refine ho_getI C cf12 fM_264 hR aM_0 dX12_ask_135 ?_
  obtain ⟨S1, e1, h⟩ := le1_ok h
  refine hr_putI C cf12 fM_391 hR aM_0 e1 dX12_ask_138 (fun H locs hR => ?_)
  refine lv_aload_n C.1 C.2.1 dX12_ask_141 rfl (lv_at hl 0 rfl) ?_
  refine lv_aload_n C.1 C.2.1 dX12_ask_142 rfl (lv_at hl 0 rfl) ?_
  refine ho_getI C cf12 fM_267 hR aM_0 dX12_ask_143 ?_
  obtain ⟨S2, e2, h⟩ := le1_ok h
  refine hr_putI C cf12 fM_13 hR aM_0 e2 dX12_ask_146 (fun H locs hR => ?_)
  refine lv_aload_n C.1 C.2.1 dX12_ask_149 rfl (lv_at hl 0 rfl) ?_
  refine ho_getI C cf12 fM_264 hR aM_0 dX12_ask_150 ?_
  refine lv_if_eq (tgt := 160) C.1 C.2.1 dX12_ask_153 (by decide) (fun hc => ?_) (fun hc => ?_)
  · replace h := if_t h hc
    refine lv_aload_n C.1 C.2.1 dX12_ask_160 rfl (lv_at hl 0 rfl) ?_
    refine lv_iload_n C.1 C.2.1 dX12_ask_161 rfl (lv_at hl 1 rfl) ?_
    refine lv_iconst (v := (2 : Int32)) C.1 C.2.1 dX12_ask_162 (by decide) ?_
    refine lv_icmp_ge (tgt := 172) C.1 C.2.1 dX12_ask_163 (by decide) (fun hc => ?_) (fun hc => ?_)
    · replace h := if_t h hc
      refine lv_lconst (v := (0 : Int64)) C.1 C.2.1 dX12_ask_172 (by decide) ?_
      exact w_X12_ask_173 C x1 (0 : Int64) S2 h _ _ _ hR (lv_sub hl [0, 1] rfl)
    · replace h := if_f h hc
      refine lv_ldc2 (v := (-1 : Int64)) C.1 C.2.1 C.2.2.2.2.1 (C.2.2.2.2.2.1 _ kc_RX12_680) dX12_ask_166 ?_
      refine lv_goto (tgt := 173) C.1 C.2.1 dX12_ask_169 (by decide) ?_
      exact w_X12_ask_173 C x1 (-1 : Int64) S2 h _ _ _ hR (lv_sub hl [0, 1] rfl)
  · replace h := if_f h hc
    refine lv_ldc2 (v := (-1000000000000000 : Int64)) C.1 C.2.1 C.2.2.2.2.1 (C.2.2.2.2.2.1 _ kc_RX12_685) dX12_ask_156 ?_
    exact ho_lret C hR h dX12_ask_159
def f_X12_ask_109 (x1 : Int32) (S : Hp) : Option (Int64 × Hp) :=
  if (S.1 0 5) = 0 then ob2 (f_X12_look0 S) (fun r1 S1 => if r1 = (-1 : Int32) then f_X12_ask_133 x1 S1 else ob (f_X12_fail (1 : Int32) (S1.1 0 2) S1) (fun S2 => f_X12_ask_133 x1 S2)) else f_X12_ask_133 x1 S
set_option maxHeartbeats 4000000 in
set_option maxRecDepth 100000 in
theorem w_X12_ask_109 {p : Program} {l : Launch} {e : Env} {s : State} {m : MethodId} {args : Array Value} {below : List Frame} {meth : Method} {c : Code} {E : Ev} {S0 : Hp} {r : (Int64 × Hp)} (C : ho_I p s m args meth c RX12 cX12_ask 4 (some .long)) :
    ∀ (x1 : Int32) (S : Hp), f_X12_ask_109 x1 S = some r → ho_G p l e s m args below meth c yM E S0 9 4 (some (.long r.1), r.2) 109 [(0, .ref (E.2.1 0)), (1, .int x1)] [] S := by
  intro x1 S h H locs ls hR hl
  unfold f_X12_ask_109 at h
  refine lv_aload_n C.1 C.2.1 dX12_ask_109 rfl (lv_at hl 0 rfl) ?_
  refine ho_getI C cf12 fM_264 hR aM_0 dX12_ask_110 ?_
  refine lv_if_ne (tgt := 133) C.1 C.2.1 dX12_ask_113 (by decide) (fun hc => ?_) (fun hc => ?_)
  · replace h := if_f h hc
    exact w_X12_ask_133 C x1 S h _ _ _ hR (lv_sub hl [0, 1] rfl)
  · replace h := if_t h hc
    refine lv_aload_n C.1 C.2.1 dX12_ask_116 rfl (lv_at hl 0 rfl) ?_
    obtain ⟨r1, S1, h1, h⟩ := ob2_ok h
    refine hr_Vi (v := r1) (S' := S1) (As := []) (rest := []) C cf12 (c_X12_look0 l E _ _ h1) yv_X12_look0 lk_RX12_276 rfl aM_0 rfl rfl hl.1 (Nat.le_of_ble_eq_true rfl) (by decide) (by decide) hR (ho_A hR) dX12_ask_117 (fun H locs hR => ?_)
    refine lv_iconst (v := (-1 : Int32)) C.1 C.2.1 dX12_ask_120 (by decide) ?_
    refine lv_icmp_eq (tgt := 133) C.1 C.2.1 dX12_ask_121 (by decide) (fun hc => ?_) (fun hc => ?_)
    · replace h := if_t h hc
      exact w_X12_ask_133 C x1 S1 h _ _ _ hR (lv_sub hl [0, 1] rfl)
    · replace h := if_f h hc
      refine lv_aload_n C.1 C.2.1 dX12_ask_124 rfl (lv_at hl 0 rfl) ?_
      refine lv_iconst (v := (1 : Int32)) C.1 C.2.1 dX12_ask_125 (by decide) ?_
      refine lv_aload_n C.1 C.2.1 dX12_ask_126 rfl (lv_at hl 0 rfl) ?_
      refine ho_getI C cf12 fM_270 hR aM_0 dX12_ask_127 ?_
      obtain ⟨S2, h2, h⟩ := ob_ok h
      refine hr_Vv (S' := S2) (As := [.int (1 : Int32), .int (S1.1 0 2)]) (rest := []) C cf12 (c_X12_fail l E (1 : Int32) (S1.1 0 2) _ _ h2) yv_X12_fail lk_RX12_294 rfl aM_0 rfl rfl hl.1 (Nat.le_of_ble_eq_true rfl) (by decide) (by decide) hR (ho_A hR) dX12_ask_130 (fun H locs hR => ?_)
      exact w_X12_ask_133 C x1 S2 h _ _ _ hR (lv_sub hl [0, 1] rfl)
def f_X12_ask_98 (x1 : Int32) (S : Hp) : Option (Int64 × Hp) :=
  if (S.1 0 5) = 0 then ob (f_X12_qSums S) (fun S1 => f_X12_ask_109 x1 S1) else f_X12_ask_109 x1 S
set_option maxHeartbeats 4000000 in
set_option maxRecDepth 100000 in
theorem w_X12_ask_98 {p : Program} {l : Launch} {e : Env} {s : State} {m : MethodId} {args : Array Value} {below : List Frame} {meth : Method} {c : Code} {E : Ev} {S0 : Hp} {r : (Int64 × Hp)} (C : ho_I p s m args meth c RX12 cX12_ask 4 (some .long)) :
    ∀ (x1 : Int32) (S : Hp), f_X12_ask_98 x1 S = some r → ho_G p l e s m args below meth c yM E S0 9 4 (some (.long r.1), r.2) 98 [(0, .ref (E.2.1 0)), (1, .int x1)] [] S := by
  intro x1 S h H locs ls hR hl
  unfold f_X12_ask_98 at h
  refine lv_aload_n C.1 C.2.1 dX12_ask_98 rfl (lv_at hl 0 rfl) ?_
  refine ho_getI C cf12 fM_264 hR aM_0 dX12_ask_99 ?_
  refine lv_if_ne (tgt := 109) C.1 C.2.1 dX12_ask_102 (by decide) (fun hc => ?_) (fun hc => ?_)
  · replace h := if_f h hc
    exact w_X12_ask_109 C x1 S h _ _ _ hR (lv_sub hl [0, 1] rfl)
  · replace h := if_t h hc
    refine lv_aload_n C.1 C.2.1 dX12_ask_105 rfl (lv_at hl 0 rfl) ?_
    obtain ⟨S1, h1, h⟩ := ob_ok h
    refine hr_Vv (S' := S1) (As := []) (rest := []) C cf12 (c_X12_qSums l E _ _ h1) yv_X12_qSums lk_RX12_364 rfl aM_0 rfl rfl hl.1 (Nat.le_of_ble_eq_true rfl) (by decide) (by decide) hR (ho_A hR) dX12_ask_106 (fun H locs hR => ?_)
    exact w_X12_ask_109 C x1 S1 h _ _ _ hR (lv_sub hl [0, 1] rfl)
def f_X12_ask (S : Hp) : Option (Int64 × Hp) :=
  if (S.1 0 52) = 0 then le1 (ho_sI S 0 1 (0 : Int32)) (fun S14 => some ((-1000000000000000 : Int64), S14)) else le1 (ho_sI S 0 3 (S.1 0 1)) (fun S1 => le1 (ho_sI S1 0 1 (0 : Int32)) (fun S2 => le1 (ho_sI S2 0 2 (0 : Int32)) (fun S3 => le1 (ho_sI S3 0 4 (-1 : Int32)) (fun S4 => le1 (ho_sI S4 0 5 (0 : Int32)) (fun S5 => le1 (ho_sI S5 0 6 (-1 : Int32)) (fun S6 => le1 (ho_sI S6 0 53 (2 : Int32)) (fun S7 => le1 (ho_sI S7 0 100 (0 : Int32)) (fun S8 => le1 (ho_sI S8 0 102 (0 : Int32)) (fun S9 => le1 (ho_sI S9 0 103 (0 : Int32)) (fun S10 => le1 (ho_sI S10 0 104 (0 : Int32)) (fun S11 => ob2 (f_X12_qKind S11) (fun r12 S12 => if (S12.1 0 5) = 0 then if (3 : Int32) ≤ r12 then f_X12_ask_98 r12 S12 else ob (f_X12_qTest S12) (fun S13 => f_X12_ask_109 r12 S13) else f_X12_ask_98 r12 S12))))))))))))
set_option maxHeartbeats 4000000 in
set_option maxRecDepth 100000 in
theorem c_X12_ask (l : Launch) (E : Ev) (S : Hp) (r : (Int64 × Hp)) (h : f_X12_ask S = some r) : ho_M l yM E yX12_ask cX12_ask 4 (some .long) 9 [.ref (E.2.1 0)] S (some (.long r.1), r.2) := by
  refine ho_in (by decide) (Nat.le_of_ble_eq_true rfl) ?_
  intro p e s m args below meth c C hR ls hl
  have C : ho_I p s m args meth c RX12 cX12_ask 4 (some .long) := C
  have hl : lv_has ls 4 [(0, .ref (E.2.1 0))] := hl
  unfold f_X12_ask at h
  refine lv_aload_n C.1 C.2.1 dX12_ask_0 rfl (lv_at hl 0 rfl) ?_
  refine ho_getI C cf12 fM_397 hR aM_0 dX12_ask_1 ?_
  refine lv_if_ne (tgt := 16) C.1 C.2.1 dX12_ask_4 (by decide) (fun hc => ?_) (fun hc => ?_)
  · replace h := if_f h hc
    refine lv_aload_n C.1 C.2.1 dX12_ask_16 rfl (lv_at hl 0 rfl) ?_
    refine lv_aload_n C.1 C.2.1 dX12_ask_17 rfl (lv_at hl 0 rfl) ?_
    refine ho_getI C cf12 fM_261 hR aM_0 dX12_ask_18 ?_
    obtain ⟨S1, e1, h⟩ := le1_ok h
    refine hr_putI C cf12 fM_273 hR aM_0 e1 dX12_ask_21 (fun H locs hR => ?_)
    refine lv_aload_n C.1 C.2.1 dX12_ask_24 rfl (lv_at hl 0 rfl) ?_
    refine lv_iconst (v := (0 : Int32)) C.1 C.2.1 dX12_ask_25 (by decide) ?_
    obtain ⟨S2, e2, h⟩ := le1_ok h
    refine hr_putI C cf12 fM_261 hR aM_0 e2 dX12_ask_26 (fun H locs hR => ?_)
    refine lv_aload_n C.1 C.2.1 dX12_ask_29 rfl (lv_at hl 0 rfl) ?_
    refine lv_iconst (v := (0 : Int32)) C.1 C.2.1 dX12_ask_30 (by decide) ?_
    obtain ⟨S3, e3, h⟩ := le1_ok h
    refine hr_putI C cf12 fM_270 hR aM_0 e3 dX12_ask_31 (fun H locs hR => ?_)
    refine lv_aload_n C.1 C.2.1 dX12_ask_34 rfl (lv_at hl 0 rfl) ?_
    refine lv_iconst (v := (-1 : Int32)) C.1 C.2.1 dX12_ask_35 (by decide) ?_
    obtain ⟨S4, e4, h⟩ := le1_ok h
    refine hr_putI C cf12 fM_284 hR aM_0 e4 dX12_ask_36 (fun H locs hR => ?_)
    refine lv_aload_n C.1 C.2.1 dX12_ask_39 rfl (lv_at hl 0 rfl) ?_
    refine lv_iconst (v := (0 : Int32)) C.1 C.2.1 dX12_ask_40 (by decide) ?_
    obtain ⟨S5, e5, h⟩ := le1_ok h
    refine hr_putI C cf12 fM_264 hR aM_0 e5 dX12_ask_41 (fun H locs hR => ?_)
    refine lv_aload_n C.1 C.2.1 dX12_ask_44 rfl (lv_at hl 0 rfl) ?_
    refine lv_iconst (v := (-1 : Int32)) C.1 C.2.1 dX12_ask_45 (by decide) ?_
    obtain ⟨S6, e6, h⟩ := le1_ok h
    refine hr_putI C cf12 fM_267 hR aM_0 e6 dX12_ask_46 (fun H locs hR => ?_)
    refine lv_aload_n C.1 C.2.1 dX12_ask_49 rfl (lv_at hl 0 rfl) ?_
    refine lv_iconst (v := (2 : Int32)) C.1 C.2.1 dX12_ask_50 (by decide) ?_
    obtain ⟨S7, e7, h⟩ := le1_ok h
    refine hr_putI C cf12 fM_319 hR aM_0 e7 dX12_ask_51 (fun H locs hR => ?_)
    refine lv_aload_n C.1 C.2.1 dX12_ask_54 rfl (lv_at hl 0 rfl) ?_
    refine lv_iconst (v := (0 : Int32)) C.1 C.2.1 dX12_ask_55 (by decide) ?_
    obtain ⟨S8, e8, h⟩ := le1_ok h
    refine hr_putI C cf12 fM_352 hR aM_0 e8 dX12_ask_56 (fun H locs hR => ?_)
    refine lv_aload_n C.1 C.2.1 dX12_ask_59 rfl (lv_at hl 0 rfl) ?_
    refine lv_iconst (v := (0 : Int32)) C.1 C.2.1 dX12_ask_60 (by decide) ?_
    obtain ⟨S9, e9, h⟩ := le1_ok h
    refine hr_putI C cf12 fM_355 hR aM_0 e9 dX12_ask_61 (fun H locs hR => ?_)
    refine lv_aload_n C.1 C.2.1 dX12_ask_64 rfl (lv_at hl 0 rfl) ?_
    refine lv_iconst (v := (0 : Int32)) C.1 C.2.1 dX12_ask_65 (by decide) ?_
    obtain ⟨S10, e10, h⟩ := le1_ok h
    refine hr_putI C cf12 fM_358 hR aM_0 e10 dX12_ask_66 (fun H locs hR => ?_)
    refine lv_aload_n C.1 C.2.1 dX12_ask_69 rfl (lv_at hl 0 rfl) ?_
    refine lv_iconst (v := (0 : Int32)) C.1 C.2.1 dX12_ask_70 (by decide) ?_
    obtain ⟨S11, e11, h⟩ := le1_ok h
    refine hr_putI C cf12 fM_361 hR aM_0 e11 dX12_ask_71 (fun H locs hR => ?_)
    refine lv_aload_n C.1 C.2.1 dX12_ask_74 rfl (lv_at hl 0 rfl) ?_
    obtain ⟨r12, S12, h12, h⟩ := ob2_ok h
    refine hr_Vi (v := r12) (S' := S12) (As := []) (rest := []) C cf12 (c_X12_qKind l E _ _ h12) yv_X12_qKind lk_RX12_687 rfl aM_0 rfl rfl hl.1 (Nat.le_of_ble_eq_true rfl) (by decide) (by decide) hR (ho_A hR) dX12_ask_75 (fun H locs hR => ?_)
    refine lv_istore_n (lv' := [(1, .int r12), (0, .ref (E.2.1 0))]) C.1 C.2.1 dX12_ask_78 rfl hl (by decide) rfl (fun ls hl => ?_)
    refine lv_aload_n C.1 C.2.1 dX12_ask_79 rfl (lv_at hl 1 rfl) ?_
    refine ho_getI C cf12 fM_264 hR aM_0 dX12_ask_80 ?_
    refine lv_if_ne (tgt := 98) C.1 C.2.1 dX12_ask_83 (by decide) (fun hc => ?_) (fun hc => ?_)
    · replace h := if_f h hc
      exact w_X12_ask_98 C r12 S12 h _ _ _ hR (lv_sub hl [1, 0] rfl)
    · replace h := if_t h hc
      refine lv_iload_n C.1 C.2.1 dX12_ask_86 rfl (lv_at hl 0 rfl) ?_
      refine lv_iconst (v := (3 : Int32)) C.1 C.2.1 dX12_ask_87 (by decide) ?_
      refine lv_icmp_ge (tgt := 98) C.1 C.2.1 dX12_ask_88 (by decide) (fun hc => ?_) (fun hc => ?_)
      · replace h := if_t h hc
        exact w_X12_ask_98 C r12 S12 h _ _ _ hR (lv_sub hl [1, 0] rfl)
      · replace h := if_f h hc
        refine lv_aload_n C.1 C.2.1 dX12_ask_91 rfl (lv_at hl 1 rfl) ?_
        obtain ⟨S13, h13, h⟩ := ob_ok h
        refine hr_Vv (S' := S13) (As := []) (rest := []) C cf12 (c_X12_qTest l E _ _ h13) yv_X12_qTest lk_RX12_690 rfl aM_0 rfl rfl hl.1 (Nat.le_of_ble_eq_true rfl) (by decide) (by decide) hR (ho_A hR) dX12_ask_92 (fun H locs hR => ?_)
        refine lv_goto (tgt := 109) C.1 C.2.1 dX12_ask_95 (by decide) ?_
        exact w_X12_ask_109 C r12 S13 h _ _ _ hR (lv_sub hl [1, 0] rfl)
  · replace h := if_t h hc
    refine lv_aload_n C.1 C.2.1 dX12_ask_7 rfl (lv_at hl 0 rfl) ?_
    refine lv_iconst (v := (0 : Int32)) C.1 C.2.1 dX12_ask_8 (by decide) ?_
    obtain ⟨S14, e14, h⟩ := le1_ok h
    refine hr_putI C cf12 fM_261 hR aM_0 e14 dX12_ask_9 (fun H locs hR => ?_)
    refine lv_ldc2 (v := (-1000000000000000 : Int64)) C.1 C.2.1 C.2.2.2.2.1 (C.2.2.2.2.2.1 _ kc_RX12_685) dX12_ask_12 ?_
    exact ho_lret C hR h dX12_ask_15
theorem dX12_checked_0 : decode cX12_checked 0 = .ok (.bipush 97, 2) := by decide +kernel
theorem dX12_checked_2 : decode cX12_checked 2 = .ok (.istore_n 2, 1) := by decide +kernel
theorem dX12_checked_3 : decode cX12_checked 3 = .ok (.iconst 0, 1) := by decide +kernel
theorem dX12_checked_4 : decode cX12_checked 4 = .ok (.istore_n 3, 1) := by decide +kernel
theorem dX12_checked_5 : decode cX12_checked 5 = .ok (.iload_n 3, 1) := by decide +kernel
theorem dX12_checked_6 : decode cX12_checked 6 = .ok (.iload_n 1, 1) := by decide +kernel
theorem dX12_checked_7 : decode cX12_checked 7 = .ok (.if_icmp .ge 21, 3) := by decide +kernel
theorem dX12_checked_10 : decode cX12_checked 10 = .ok (.iconst 3, 1) := by decide +kernel
theorem dX12_checked_11 : decode cX12_checked 11 = .ok (.iload_n 2, 1) := by decide +kernel
theorem dX12_checked_12 : decode cX12_checked 12 = .ok (.imul, 1) := by decide +kernel
theorem dX12_checked_13 : decode cX12_checked 13 = .ok (.aload_n 0, 1) := by decide +kernel
theorem dX12_checked_14 : decode cX12_checked 14 = .ok (.iload_n 3, 1) := by decide +kernel
theorem dX12_checked_15 : decode cX12_checked 15 = .ok (.iaload, 1) := by decide +kernel
theorem dX12_checked_16 : decode cX12_checked 16 = .ok (.iadd, 1) := by decide +kernel
theorem dX12_checked_17 : decode cX12_checked 17 = .ok (.sipush 251, 3) := by decide +kernel
theorem dX12_checked_20 : decode cX12_checked 20 = .ok (.irem, 1) := by decide +kernel
theorem dX12_checked_21 : decode cX12_checked 21 = .ok (.istore_n 2, 1) := by decide +kernel
theorem dX12_checked_22 : decode cX12_checked 22 = .ok (.iinc 3 1, 3) := by decide +kernel
theorem dX12_checked_25 : decode cX12_checked 25 = .ok (.goto (-20), 3) := by decide +kernel
theorem dX12_checked_28 : decode cX12_checked 28 = .ok (.iload_n 2, 1) := by decide +kernel
theorem dX12_checked_29 : decode cX12_checked 29 = .ok (.ireturn, 1) := by decide +kernel
def f_X12_checked_5 (w0 n0 : Nat) : Nat → Int32 → Int32 → Int32 → Hp → Option (Int32 × Hp)
  | 0, _, _, _, _ => none
  | k + 1, x1, x2, x3, S => if x1 ≤ x3 then some (x2, S) else ldI S w0 n0 x3 (fun v1 => le1 ((((3 : Int32) * x2) + v1) - (((3 : Int32) * x2) + v1) / (251 : Int32) * (251 : Int32)) (fun v2 => le1 (x3 + (1 : Int32)) (fun v3 => f_X12_checked_5 w0 n0 k x1 v2 v3 S)))
set_option maxHeartbeats 4000000 in
set_option maxRecDepth 100000 in
theorem w_X12_checked_5 {p : Program} {l : Launch} {e : Env} {s : State} {m : MethodId} {args : Array Value} {below : List Frame} {meth : Method} {c : Code} {E : Ev} {S0 : Hp} {r : (Int32 × Hp)} (C : ho_I p s m args meth c RX12 cX12_checked 4 (some .int)) (w0 n0 : Nat) (hw0 : w0 ∈ yM.1 ∧ yM.2.1 w0 = (4, n0)) :
    ∀ (k : Nat) (x1 : Int32) (x2 : Int32) (x3 : Int32) (S : Hp), f_X12_checked_5 w0 n0 k x1 x2 x3 S = some r → ho_G p l e s m args below meth c yM E S0 0 4 (some (.int r.1), r.2) 5 [(0, .ref (E.2.1 w0)), (1, .int x1), (2, .int x2), (3, .int x3)] [] S := by
  intro k
  induction k with
  | zero =>
    intro x1 x2 x3 S h
    exact absurd (show (none : Option (Int32 × Hp)) = some r from h) (by simp)
  | succ k ih =>
    intro x1 x2 x3 S h H locs ls hR hl
    rw [f_X12_checked_5] at h
    refine lv_iload_n C.1 C.2.1 dX12_checked_5 rfl (lv_at hl 3 rfl) ?_
    refine lv_iload_n C.1 C.2.1 dX12_checked_6 rfl (lv_at hl 1 rfl) ?_
    refine lv_icmp_ge (tgt := 28) C.1 C.2.1 dX12_checked_7 (by decide) (fun hc => ?_) (fun hc => ?_)
    · replace h := if_t h hc
      refine lv_iload_n C.1 C.2.1 dX12_checked_28 rfl (lv_at hl 2 rfl) ?_
      exact ho_iret C hR h dX12_checked_29
    · replace h := if_f h hc
      refine lv_iconst (v := (3 : Int32)) C.1 C.2.1 dX12_checked_10 (by decide) ?_
      refine lv_iload_n C.1 C.2.1 dX12_checked_11 rfl (lv_at hl 2 rfl) ?_
      refine lv_imul C.1 C.2.1 dX12_checked_12 ?_
      refine lv_aload_n C.1 C.2.1 dX12_checked_13 rfl (lv_at hl 0 rfl) ?_
      refine lv_iload_n C.1 C.2.1 dX12_checked_14 rfl (lv_at hl 3 rfl) ?_
      obtain ⟨v1, e1, hi1, h⟩ := ldI_ok h
      refine hr_ild C hR hw0 hi1 e1 dX12_checked_15 ?_
      refine lv_iadd C.1 C.2.1 dX12_checked_16 ?_
      refine lv_sipush (v := (251 : Int32)) C.1 C.2.1 dX12_checked_17 (by decide) ?_
      refine lv_irem C.1 C.2.1 dX12_checked_20 (by decide) ?_
      refine lv_topi (fun v2 e2 => ?_)
      replace h := le1_at e2 h
      refine lv_istore_n (lv' := [(2, .int v2), (0, .ref (E.2.1 w0)), (1, .int x1), (3, .int x3)]) C.1 C.2.1 dX12_checked_21 rfl hl (by decide) rfl (fun ls hl => ?_)
      obtain ⟨v3, e3, h⟩ := le1_ok h
      refine lv_iinc (v := v3) (lv' := [(3, .int v3), (2, .int v2), (0, .ref (E.2.1 w0)), (1, .int x1)]) C.1 C.2.1 dX12_checked_22 hl (k := 3) rfl (by rw [e3]; rfl) (by decide) rfl (fun ls hl => ?_)
      refine lv_goto (tgt := 5) C.1 C.2.1 dX12_checked_25 (by decide) ?_
      exact ih x1 v2 v3 S h _ _ _ hR (lv_sub hl [2, 3, 1, 0] rfl)
def f_X12_checked (w0 : Nat) (n0 : Nat) (x1 : Int32) (S : Hp) : Option (Int32 × Hp) :=
  f_X12_checked_5 w0 n0 5000 x1 (97 : Int32) (0 : Int32) S
set_option maxHeartbeats 4000000 in
set_option maxRecDepth 100000 in
theorem c_X12_checked (l : Launch) (E : Ev) (w0 : Nat) (n0 : Nat) (x1 : Int32) (hw0 : w0 ∈ yM.1 ∧ yM.2.1 w0 = (4, n0)) (S : Hp) (r : (Int32 × Hp)) (h : f_X12_checked w0 n0 x1 S = some r) : ho_M l yM E yX12_checked cX12_checked 4 (some .int) 0 [.ref (E.2.1 w0), .int x1] S (some (.int r.1), r.2) := by
  refine ho_in (by decide) (Nat.le_of_ble_eq_true rfl) ?_
  intro p e s m args below meth c C hR ls hl
  have C : ho_I p s m args meth c RX12 cX12_checked 4 (some .int) := C
  have hl : lv_has ls 4 [(0, .ref (E.2.1 w0)), (1, .int x1)] := hl
  unfold f_X12_checked at h
  refine lv_bipush (v := (97 : Int32)) C.1 C.2.1 dX12_checked_0 (by decide) ?_
  refine lv_istore_n (lv' := [(2, .int (97 : Int32)), (0, .ref (E.2.1 w0)), (1, .int x1)]) C.1 C.2.1 dX12_checked_2 rfl hl (by decide) rfl (fun ls hl => ?_)
  refine lv_iconst (v := (0 : Int32)) C.1 C.2.1 dX12_checked_3 (by decide) ?_
  refine lv_istore_n (lv' := [(3, .int (0 : Int32)), (2, .int (97 : Int32)), (0, .ref (E.2.1 w0)), (1, .int x1)]) C.1 C.2.1 dX12_checked_4 rfl hl (by decide) rfl (fun ls hl => ?_)
  exact w_X12_checked_5 C w0 n0 hw0 5000 x1 (97 : Int32) (0 : Int32) S h _ _ _ hR (lv_sub hl [2, 3, 1, 0] rfl)
theorem dX12_writes_0 : decode cX12_writes 0 = .ok (.aload_n 0, 1) := by decide +kernel
theorem dX12_writes_1 : decode cX12_writes 1 = .ok (.getfield 258, 3) := by decide +kernel
theorem dX12_writes_4 : decode cX12_writes 4 = .ok (.aload_n 0, 1) := by decide +kernel
theorem dX12_writes_5 : decode cX12_writes 5 = .ok (.getfield 701, 3) := by decide +kernel
theorem dX12_writes_8 : decode cX12_writes 8 = .ok (.iload_n 1, 1) := by decide +kernel
theorem dX12_writes_9 : decode cX12_writes 9 = .ok (.iastore, 1) := by decide +kernel
theorem dX12_writes_10 : decode cX12_writes 10 = .ok (.aload_n 0, 1) := by decide +kernel
theorem dX12_writes_11 : decode cX12_writes 11 = .ok (.dup, 1) := by decide +kernel
theorem dX12_writes_12 : decode cX12_writes 12 = .ok (.getfield 701, 3) := by decide +kernel
theorem dX12_writes_15 : decode cX12_writes 15 = .ok (.iconst 1, 1) := by decide +kernel
theorem dX12_writes_16 : decode cX12_writes 16 = .ok (.iadd, 1) := by decide +kernel
theorem dX12_writes_17 : decode cX12_writes 17 = .ok (.putfield 701, 3) := by decide +kernel
theorem dX12_writes_20 : decode cX12_writes 20 = .ok (.return_, 1) := by decide +kernel
def f_X12_writes (x1 : Int32) (S : Hp) : Option Hp :=
  stI S 110 48 (S.1 0 110) x1 (fun S1 => le1 (ho_sI S1 0 110 ((S1.1 0 110) + (1 : Int32))) (fun S2 => some S2))
set_option maxHeartbeats 4000000 in
set_option maxRecDepth 100000 in
theorem c_X12_writes (l : Launch) (E : Ev) (x1 : Int32) (S : Hp) (r : Hp) (h : f_X12_writes x1 S = some r) : ho_M l yM E yX12_writes cX12_writes 2 none 0 [.ref (E.2.1 0), .int x1] S (none, r) := by
  refine ho_in (by decide) (Nat.le_of_ble_eq_true rfl) ?_
  intro p e s m args below meth c C hR ls hl
  have C : ho_I p s m args meth c RX12 cX12_writes 2 none := C
  have hl : lv_has ls 2 [(0, .ref (E.2.1 0)), (1, .int x1)] := hl
  unfold f_X12_writes at h
  refine lv_aload_n C.1 C.2.1 dX12_writes_0 rfl (lv_at hl 0 rfl) ?_
  refine ho_getR (a' := 110) C cf12 fM_258 hR aM_0 rfl dX12_writes_1 ?_
  refine lv_aload_n C.1 C.2.1 dX12_writes_4 rfl (lv_at hl 0 rfl) ?_
  refine ho_getI C cf12 fM_701 hR aM_0 dX12_writes_5 ?_
  refine lv_iload_n C.1 C.2.1 dX12_writes_8 rfl (lv_at hl 1 rfl) ?_
  obtain ⟨S1, e1, hi1, h⟩ := stI_ok h
  refine hr_ist C hR aM_110 hi1 e1 dX12_writes_9 (fun H locs hR => ?_)
  refine lv_aload_n C.1 C.2.1 dX12_writes_10 rfl (lv_at hl 0 rfl) ?_
  refine lv_dup C.1 C.2.1 dX12_writes_11 rfl ?_
  refine ho_getI C cf12 fM_701 hR aM_0 dX12_writes_12 ?_
  refine lv_iconst (v := (1 : Int32)) C.1 C.2.1 dX12_writes_15 (by decide) ?_
  refine lv_iadd C.1 C.2.1 dX12_writes_16 ?_
  obtain ⟨S2, e2, h⟩ := le1_ok h
  refine hr_putI C cf12 fM_701 hR aM_0 e2 dX12_writes_17 (fun H locs hR => ?_)
  exact ho_vret C hR h dX12_writes_20
theorem dX12_writesTwo_0 : decode cX12_writesTwo 0 = .ok (.aload_n 0, 1) := by decide +kernel
theorem dX12_writesTwo_1 : decode cX12_writesTwo 1 = .ok (.iload_n 1, 1) := by decide +kernel
theorem dX12_writesTwo_2 : decode cX12_writesTwo 2 = .ok (.sipush 256, 3) := by decide +kernel
theorem dX12_writesTwo_5 : decode cX12_writesTwo 5 = .ok (.idiv, 1) := by decide +kernel
theorem dX12_writesTwo_6 : decode cX12_writesTwo 6 = .ok (.invokevirtual 704, 3) := by decide +kernel
theorem dX12_writesTwo_9 : decode cX12_writesTwo 9 = .ok (.aload_n 0, 1) := by decide +kernel
theorem dX12_writesTwo_10 : decode cX12_writesTwo 10 = .ok (.iload_n 1, 1) := by decide +kernel
theorem dX12_writesTwo_11 : decode cX12_writesTwo 11 = .ok (.sipush 256, 3) := by decide +kernel
theorem dX12_writesTwo_14 : decode cX12_writesTwo 14 = .ok (.irem, 1) := by decide +kernel
theorem dX12_writesTwo_15 : decode cX12_writesTwo 15 = .ok (.invokevirtual 704, 3) := by decide +kernel
theorem dX12_writesTwo_18 : decode cX12_writesTwo 18 = .ok (.return_, 1) := by decide +kernel
def f_X12_writesTwo (x1 : Int32) (S : Hp) : Option Hp :=
  ob (f_X12_writes (x1 / (256 : Int32)) S) (fun S1 => ob (f_X12_writes (x1 - x1 / (256 : Int32) * (256 : Int32)) S1) (fun S2 => some S2))
set_option maxHeartbeats 4000000 in
set_option maxRecDepth 100000 in
theorem c_X12_writesTwo (l : Launch) (E : Ev) (x1 : Int32) (S : Hp) (r : Hp) (h : f_X12_writesTwo x1 S = some r) : ho_M l yM E yX12_writesTwo cX12_writesTwo 2 none 1 [.ref (E.2.1 0), .int x1] S (none, r) := by
  refine ho_in (by decide) (Nat.le_of_ble_eq_true rfl) ?_
  intro p e s m args below meth c C hR ls hl
  have C : ho_I p s m args meth c RX12 cX12_writesTwo 2 none := C
  have hl : lv_has ls 2 [(0, .ref (E.2.1 0)), (1, .int x1)] := hl
  unfold f_X12_writesTwo at h
  refine lv_aload_n C.1 C.2.1 dX12_writesTwo_0 rfl (lv_at hl 0 rfl) ?_
  refine lv_iload_n C.1 C.2.1 dX12_writesTwo_1 rfl (lv_at hl 1 rfl) ?_
  refine lv_sipush (v := (256 : Int32)) C.1 C.2.1 dX12_writesTwo_2 (by decide) ?_
  refine lv_idiv C.1 C.2.1 dX12_writesTwo_5 (by decide) ?_
  obtain ⟨S1, h1, h⟩ := ob_ok h
  refine hr_Vv (S' := S1) (As := [.int (x1 / (256 : Int32))]) (rest := []) C cf12 (c_X12_writes l E (x1 / (256 : Int32)) _ _ h1) yv_X12_writes lk_RX12_704 rfl aM_0 rfl rfl hl.1 (Nat.le_of_ble_eq_true rfl) (by decide) (by decide) hR (ho_A hR) dX12_writesTwo_6 (fun H locs hR => ?_)
  refine lv_aload_n C.1 C.2.1 dX12_writesTwo_9 rfl (lv_at hl 0 rfl) ?_
  refine lv_iload_n C.1 C.2.1 dX12_writesTwo_10 rfl (lv_at hl 1 rfl) ?_
  refine lv_sipush (v := (256 : Int32)) C.1 C.2.1 dX12_writesTwo_11 (by decide) ?_
  refine lv_irem C.1 C.2.1 dX12_writesTwo_14 (by decide) ?_
  obtain ⟨S2, h2, h⟩ := ob_ok h
  refine hr_Vv (S' := S2) (As := [.int (x1 - x1 / (256 : Int32) * (256 : Int32))]) (rest := []) C cf12 (c_X12_writes l E (x1 - x1 / (256 : Int32) * (256 : Int32)) _ _ h2) yv_X12_writes lk_RX12_704 rfl aM_0 rfl rfl hl.1 (Nat.le_of_ble_eq_true rfl) (by decide) (by decide) hR (ho_A hR) dX12_writesTwo_15 (fun H locs hR => ?_)
  exact ho_vret C hR h dX12_writesTwo_18
theorem dX12_image_0 : decode cX12_image 0 = .ok (.aload_n 0, 1) := by decide +kernel
theorem dX12_image_1 : decode cX12_image 1 = .ok (.iconst 0, 1) := by decide +kernel
theorem dX12_image_2 : decode cX12_image 2 = .ok (.putfield 701, 3) := by decide +kernel
theorem dX12_image_5 : decode cX12_image 5 = .ok (.aload_n 0, 1) := by decide +kernel
theorem dX12_image_6 : decode cX12_image 6 = .ok (.aload_n 0, 1) := by decide +kernel
theorem dX12_image_7 : decode cX12_image 7 = .ok (.getfield 139, 3) := by decide +kernel
theorem dX12_image_10 : decode cX12_image 10 = .ok (.iconst 0, 1) := by decide +kernel
theorem dX12_image_11 : decode cX12_image 11 = .ok (.iaload, 1) := by decide +kernel
theorem dX12_image_12 : decode cX12_image 12 = .ok (.invokevirtual 707, 3) := by decide +kernel
theorem dX12_image_15 : decode cX12_image 15 = .ok (.aload_n 0, 1) := by decide +kernel
theorem dX12_image_16 : decode cX12_image 16 = .ok (.aload_n 0, 1) := by decide +kernel
theorem dX12_image_17 : decode cX12_image 17 = .ok (.getfield 139, 3) := by decide +kernel
theorem dX12_image_20 : decode cX12_image 20 = .ok (.iconst 1, 1) := by decide +kernel
theorem dX12_image_21 : decode cX12_image 21 = .ok (.iaload, 1) := by decide +kernel
theorem dX12_image_22 : decode cX12_image 22 = .ok (.ldc_w 710, 3) := by decide +kernel
theorem dX12_image_25 : decode cX12_image 25 = .ok (.idiv, 1) := by decide +kernel
theorem dX12_image_26 : decode cX12_image 26 = .ok (.invokevirtual 704, 3) := by decide +kernel
theorem dX12_image_29 : decode cX12_image 29 = .ok (.aload_n 0, 1) := by decide +kernel
theorem dX12_image_30 : decode cX12_image 30 = .ok (.aload_n 0, 1) := by decide +kernel
theorem dX12_image_31 : decode cX12_image 31 = .ok (.getfield 139, 3) := by decide +kernel
theorem dX12_image_34 : decode cX12_image 34 = .ok (.iconst 1, 1) := by decide +kernel
theorem dX12_image_35 : decode cX12_image 35 = .ok (.iaload, 1) := by decide +kernel
theorem dX12_image_36 : decode cX12_image 36 = .ok (.ldc_w 710, 3) := by decide +kernel
theorem dX12_image_39 : decode cX12_image 39 = .ok (.irem, 1) := by decide +kernel
theorem dX12_image_40 : decode cX12_image 40 = .ok (.invokevirtual 707, 3) := by decide +kernel
theorem dX12_image_43 : decode cX12_image 43 = .ok (.aload_n 0, 1) := by decide +kernel
theorem dX12_image_44 : decode cX12_image 44 = .ok (.aload_n 0, 1) := by decide +kernel
theorem dX12_image_45 : decode cX12_image 45 = .ok (.getfield 139, 3) := by decide +kernel
theorem dX12_image_48 : decode cX12_image 48 = .ok (.iconst 2, 1) := by decide +kernel
theorem dX12_image_49 : decode cX12_image 49 = .ok (.iaload, 1) := by decide +kernel
theorem dX12_image_50 : decode cX12_image 50 = .ok (.invokevirtual 704, 3) := by decide +kernel
theorem dX12_image_53 : decode cX12_image 53 = .ok (.iconst 0, 1) := by decide +kernel
theorem dX12_image_54 : decode cX12_image 54 = .ok (.istore_n 1, 1) := by decide +kernel
theorem dX12_image_55 : decode cX12_image 55 = .ok (.iload_n 1, 1) := by decide +kernel
theorem dX12_image_56 : decode cX12_image 56 = .ok (.aload_n 0, 1) := by decide +kernel
theorem dX12_image_57 : decode cX12_image 57 = .ok (.invokevirtual 407, 3) := by decide +kernel
theorem dX12_image_60 : decode cX12_image 60 = .ok (.if_icmp .ge 21, 3) := by decide +kernel
theorem dX12_image_63 : decode cX12_image 63 = .ok (.aload_n 0, 1) := by decide +kernel
theorem dX12_image_64 : decode cX12_image 64 = .ok (.aload_n 0, 1) := by decide +kernel
theorem dX12_image_65 : decode cX12_image 65 = .ok (.getfield 139, 3) := by decide +kernel
theorem dX12_image_68 : decode cX12_image 68 = .ok (.iconst 3, 1) := by decide +kernel
theorem dX12_image_69 : decode cX12_image 69 = .ok (.iload_n 1, 1) := by decide +kernel
theorem dX12_image_70 : decode cX12_image 70 = .ok (.iadd, 1) := by decide +kernel
theorem dX12_image_71 : decode cX12_image 71 = .ok (.iaload, 1) := by decide +kernel
theorem dX12_image_72 : decode cX12_image 72 = .ok (.invokevirtual 707, 3) := by decide +kernel
theorem dX12_image_75 : decode cX12_image 75 = .ok (.iinc 1 1, 3) := by decide +kernel
theorem dX12_image_78 : decode cX12_image 78 = .ok (.goto (-23), 3) := by decide +kernel
theorem dX12_image_81 : decode cX12_image 81 = .ok (.iconst 0, 1) := by decide +kernel
theorem dX12_image_82 : decode cX12_image 82 = .ok (.istore_n 1, 1) := by decide +kernel
theorem dX12_image_83 : decode cX12_image 83 = .ok (.iload_n 1, 1) := by decide +kernel
theorem dX12_image_84 : decode cX12_image 84 = .ok (.aload_n 0, 1) := by decide +kernel
theorem dX12_image_85 : decode cX12_image 85 = .ok (.invokevirtual 410, 3) := by decide +kernel
theorem dX12_image_88 : decode cX12_image 88 = .ok (.if_icmp .ge 27, 3) := by decide +kernel
theorem dX12_image_91 : decode cX12_image 91 = .ok (.aload_n 0, 1) := by decide +kernel
theorem dX12_image_92 : decode cX12_image 92 = .ok (.aload_n 0, 1) := by decide +kernel
theorem dX12_image_93 : decode cX12_image 93 = .ok (.iload_n 1, 1) := by decide +kernel
theorem dX12_image_94 : decode cX12_image 94 = .ok (.invokevirtual 536, 3) := by decide +kernel
theorem dX12_image_97 : decode cX12_image 97 = .ok (.invokevirtual 707, 3) := by decide +kernel
theorem dX12_image_100 : decode cX12_image 100 = .ok (.aload_n 0, 1) := by decide +kernel
theorem dX12_image_101 : decode cX12_image 101 = .ok (.aload_n 0, 1) := by decide +kernel
theorem dX12_image_102 : decode cX12_image 102 = .ok (.iload_n 1, 1) := by decide +kernel
theorem dX12_image_103 : decode cX12_image 103 = .ok (.invokevirtual 449, 3) := by decide +kernel
theorem dX12_image_106 : decode cX12_image 106 = .ok (.invokevirtual 707, 3) := by decide +kernel
theorem dX12_image_109 : decode cX12_image 109 = .ok (.iinc 1 1, 3) := by decide +kernel
theorem dX12_image_112 : decode cX12_image 112 = .ok (.goto (-29), 3) := by decide +kernel
theorem dX12_image_115 : decode cX12_image 115 = .ok (.iconst 0, 1) := by decide +kernel
theorem dX12_image_116 : decode cX12_image 116 = .ok (.istore_n 1, 1) := by decide +kernel
theorem dX12_image_117 : decode cX12_image 117 = .ok (.iload_n 1, 1) := by decide +kernel
theorem dX12_image_118 : decode cX12_image 118 = .ok (.aload_n 0, 1) := by decide +kernel
theorem dX12_image_119 : decode cX12_image 119 = .ok (.invokevirtual 413, 3) := by decide +kernel
theorem dX12_image_122 : decode cX12_image 122 = .ok (.if_icmp .ge 18, 3) := by decide +kernel
theorem dX12_image_125 : decode cX12_image 125 = .ok (.aload_n 0, 1) := by decide +kernel
theorem dX12_image_126 : decode cX12_image 126 = .ok (.aload_n 0, 1) := by decide +kernel
theorem dX12_image_127 : decode cX12_image 127 = .ok (.iload_n 1, 1) := by decide +kernel
theorem dX12_image_128 : decode cX12_image 128 = .ok (.invokevirtual 441, 3) := by decide +kernel
theorem dX12_image_131 : decode cX12_image 131 = .ok (.invokevirtual 704, 3) := by decide +kernel
theorem dX12_image_134 : decode cX12_image 134 = .ok (.iinc 1 1, 3) := by decide +kernel
theorem dX12_image_137 : decode cX12_image 137 = .ok (.goto (-20), 3) := by decide +kernel
theorem dX12_image_140 : decode cX12_image 140 = .ok (.aload_n 0, 1) := by decide +kernel
theorem dX12_image_141 : decode cX12_image 141 = .ok (.aload_n 0, 1) := by decide +kernel
theorem dX12_image_142 : decode cX12_image 142 = .ok (.getfield 258, 3) := by decide +kernel
theorem dX12_image_145 : decode cX12_image 145 = .ok (.aload_n 0, 1) := by decide +kernel
theorem dX12_image_146 : decode cX12_image 146 = .ok (.getfield 701, 3) := by decide +kernel
theorem dX12_image_149 : decode cX12_image 149 = .ok (.invokestatic 711, 3) := by decide +kernel
theorem dX12_image_152 : decode cX12_image 152 = .ok (.invokevirtual 704, 3) := by decide +kernel
theorem dX12_image_155 : decode cX12_image 155 = .ok (.aload_n 0, 1) := by decide +kernel
theorem dX12_image_156 : decode cX12_image 156 = .ok (.getfield 701, 3) := by decide +kernel
theorem dX12_image_159 : decode cX12_image 159 = .ok (.ireturn, 1) := by decide +kernel
def f_X12_image_117 : Nat → Int32 → Hp → Option (Int32 × Hp)
  | 0, _, _ => none
  | k + 1, x1, S => ob2 (f_X12_watcherMany S) (fun r1 S1 => if r1 ≤ x1 then ob2 (f_X12_checked 110 48 (S1.1 0 110) S1) (fun r2 S2 => ob (f_X12_writes r2 S2) (fun S3 => some ((S3.1 0 110), S3))) else ob2 (f_X12_seatOf x1 S1) (fun r4 S4 => ob (f_X12_writes r4 S4) (fun S5 => le1 (x1 + (1 : Int32)) (fun v6 => f_X12_image_117 k v6 S5))))
set_option maxHeartbeats 4000000 in
set_option maxRecDepth 100000 in
theorem w_X12_image_117 {p : Program} {l : Launch} {e : Env} {s : State} {m : MethodId} {args : Array Value} {below : List Frame} {meth : Method} {c : Code} {E : Ev} {S0 : Hp} {r : (Int32 × Hp)} (C : ho_I p s m args meth c RX12 cX12_image 2 (some .int)) :
    ∀ (k : Nat) (x1 : Int32) (S : Hp), f_X12_image_117 k x1 S = some r → ho_G p l e s m args below meth c yM E S0 2 2 (some (.int r.1), r.2) 117 [(0, .ref (E.2.1 0)), (1, .int x1)] [] S := by
  intro k
  induction k with
  | zero =>
    intro x1 S h
    exact absurd (show (none : Option (Int32 × Hp)) = some r from h) (by simp)
  | succ k ih =>
    intro x1 S h H locs ls hR hl
    rw [f_X12_image_117] at h
    refine lv_iload_n C.1 C.2.1 dX12_image_117 rfl (lv_at hl 1 rfl) ?_
    refine lv_aload_n C.1 C.2.1 dX12_image_118 rfl (lv_at hl 0 rfl) ?_
    obtain ⟨r1, S1, h1, h⟩ := ob2_ok h
    refine hr_Vi (v := r1) (S' := S1) (As := []) (rest := [.int x1]) C cf12 (c_X12_watcherMany l E _ _ h1) yv_X12_watcherMany lk_RX12_413 rfl aM_0 rfl rfl hl.1 (Nat.le_of_ble_eq_true rfl) (by decide) (by decide) hR (ho_A hR) dX12_image_119 (fun H locs hR => ?_)
    refine lv_icmp_ge (tgt := 140) C.1 C.2.1 dX12_image_122 (by decide) (fun hc => ?_) (fun hc => ?_)
    · replace h := if_t h hc
      refine lv_aload_n C.1 C.2.1 dX12_image_140 rfl (lv_at hl 0 rfl) ?_
      refine lv_aload_n C.1 C.2.1 dX12_image_141 rfl (lv_at hl 0 rfl) ?_
      refine ho_getR (a' := 110) C cf12 fM_258 hR aM_0 rfl dX12_image_142 ?_
      refine lv_aload_n C.1 C.2.1 dX12_image_145 rfl (lv_at hl 0 rfl) ?_
      refine ho_getI C cf12 fM_701 hR aM_0 dX12_image_146 ?_
      obtain ⟨r2, S2, h2, h⟩ := ob2_ok h
      refine hr_Si (v := r2) (S' := S2) (As := [.ref (E.2.1 110), .int (S1.1 0 110)]) (rest := [.ref (E.2.1 0)]) C (c_X12_checked l E 110 48 (S1.1 0 110) aM_110 _ _ h2) ys_X12_checked lk_RX12_711 rfl rfl hl.1 (Nat.le_of_ble_eq_true rfl) (by decide) (by decide) hR (ho_A hR) dX12_image_149 (fun H locs hR => ?_)
      obtain ⟨S3, h3, h⟩ := ob_ok h
      refine hr_Vv (S' := S3) (As := [.int r2]) (rest := []) C cf12 (c_X12_writes l E r2 _ _ h3) yv_X12_writes lk_RX12_704 rfl aM_0 rfl rfl hl.1 (Nat.le_of_ble_eq_true rfl) (by decide) (by decide) hR (ho_A hR) dX12_image_152 (fun H locs hR => ?_)
      refine lv_aload_n C.1 C.2.1 dX12_image_155 rfl (lv_at hl 0 rfl) ?_
      refine ho_getI C cf12 fM_701 hR aM_0 dX12_image_156 ?_
      exact ho_iret C hR h dX12_image_159
    · replace h := if_f h hc
      refine lv_aload_n C.1 C.2.1 dX12_image_125 rfl (lv_at hl 0 rfl) ?_
      refine lv_aload_n C.1 C.2.1 dX12_image_126 rfl (lv_at hl 0 rfl) ?_
      refine lv_iload_n C.1 C.2.1 dX12_image_127 rfl (lv_at hl 1 rfl) ?_
      obtain ⟨r4, S4, h4, h⟩ := ob2_ok h
      refine hr_Vi (v := r4) (S' := S4) (As := [.int x1]) (rest := [.ref (E.2.1 0)]) C cf12 (c_X12_seatOf l E x1 _ _ h4) yv_X12_seatOf lk_RX12_441 rfl aM_0 rfl rfl hl.1 (Nat.le_of_ble_eq_true rfl) (by decide) (by decide) hR (ho_A hR) dX12_image_128 (fun H locs hR => ?_)
      obtain ⟨S5, h5, h⟩ := ob_ok h
      refine hr_Vv (S' := S5) (As := [.int r4]) (rest := []) C cf12 (c_X12_writes l E r4 _ _ h5) yv_X12_writes lk_RX12_704 rfl aM_0 rfl rfl hl.1 (Nat.le_of_ble_eq_true rfl) (by decide) (by decide) hR (ho_A hR) dX12_image_131 (fun H locs hR => ?_)
      obtain ⟨v6, e6, h⟩ := le1_ok h
      refine lv_iinc (v := v6) (lv' := [(1, .int v6), (0, .ref (E.2.1 0))]) C.1 C.2.1 dX12_image_134 hl (k := 1) rfl (by rw [e6]; rfl) (by decide) rfl (fun ls hl => ?_)
      refine lv_goto (tgt := 117) C.1 C.2.1 dX12_image_137 (by decide) ?_
      exact ih v6 S5 h _ _ _ hR (lv_sub hl [1, 0] rfl)
def f_X12_image_83 : Nat → Int32 → Hp → Option (Int32 × Hp)
  | 0, _, _ => none
  | k + 1, x1, S => ob2 (f_X12_trickMany S) (fun r1 S1 => if r1 ≤ x1 then f_X12_image_117 5000 (0 : Int32) S1 else ob2 (f_X12_timesOf x1 S1) (fun r2 S2 => ob (f_X12_writesTwo r2 S2) (fun S3 => ob2 (f_X12_knownOf x1 S3) (fun r4 S4 => ob (f_X12_writesTwo r4 S4) (fun S5 => le1 (x1 + (1 : Int32)) (fun v6 => f_X12_image_83 k v6 S5))))))
set_option maxHeartbeats 4000000 in
set_option maxRecDepth 100000 in
theorem w_X12_image_83 {p : Program} {l : Launch} {e : Env} {s : State} {m : MethodId} {args : Array Value} {below : List Frame} {meth : Method} {c : Code} {E : Ev} {S0 : Hp} {r : (Int32 × Hp)} (C : ho_I p s m args meth c RX12 cX12_image 2 (some .int)) :
    ∀ (k : Nat) (x1 : Int32) (S : Hp), f_X12_image_83 k x1 S = some r → ho_G p l e s m args below meth c yM E S0 2 2 (some (.int r.1), r.2) 83 [(0, .ref (E.2.1 0)), (1, .int x1)] [] S := by
  intro k
  induction k with
  | zero =>
    intro x1 S h
    exact absurd (show (none : Option (Int32 × Hp)) = some r from h) (by simp)
  | succ k ih =>
    intro x1 S h H locs ls hR hl
    rw [f_X12_image_83] at h
    refine lv_iload_n C.1 C.2.1 dX12_image_83 rfl (lv_at hl 1 rfl) ?_
    refine lv_aload_n C.1 C.2.1 dX12_image_84 rfl (lv_at hl 0 rfl) ?_
    obtain ⟨r1, S1, h1, h⟩ := ob2_ok h
    refine hr_Vi (v := r1) (S' := S1) (As := []) (rest := [.int x1]) C cf12 (c_X12_trickMany l E _ _ h1) yv_X12_trickMany lk_RX12_410 rfl aM_0 rfl rfl hl.1 (Nat.le_of_ble_eq_true rfl) (by decide) (by decide) hR (ho_A hR) dX12_image_85 (fun H locs hR => ?_)
    refine lv_icmp_ge (tgt := 115) C.1 C.2.1 dX12_image_88 (by decide) (fun hc => ?_) (fun hc => ?_)
    · replace h := if_t h hc
      refine lv_iconst (v := (0 : Int32)) C.1 C.2.1 dX12_image_115 (by decide) ?_
      refine lv_istore_n (lv' := [(1, .int (0 : Int32)), (0, .ref (E.2.1 0))]) C.1 C.2.1 dX12_image_116 rfl hl (by decide) rfl (fun ls hl => ?_)
      exact w_X12_image_117 C 5000 (0 : Int32) S1 h _ _ _ hR (lv_sub hl [1, 0] rfl)
    · replace h := if_f h hc
      refine lv_aload_n C.1 C.2.1 dX12_image_91 rfl (lv_at hl 0 rfl) ?_
      refine lv_aload_n C.1 C.2.1 dX12_image_92 rfl (lv_at hl 0 rfl) ?_
      refine lv_iload_n C.1 C.2.1 dX12_image_93 rfl (lv_at hl 1 rfl) ?_
      obtain ⟨r2, S2, h2, h⟩ := ob2_ok h
      refine hr_Vi (v := r2) (S' := S2) (As := [.int x1]) (rest := [.ref (E.2.1 0)]) C cf12 (c_X12_timesOf l E x1 _ _ h2) yv_X12_timesOf lk_RX12_536 rfl aM_0 rfl rfl hl.1 (Nat.le_of_ble_eq_true rfl) (by decide) (by decide) hR (ho_A hR) dX12_image_94 (fun H locs hR => ?_)
      obtain ⟨S3, h3, h⟩ := ob_ok h
      refine hr_Vv (S' := S3) (As := [.int r2]) (rest := []) C cf12 (c_X12_writesTwo l E r2 _ _ h3) yv_X12_writesTwo lk_RX12_707 rfl aM_0 rfl rfl hl.1 (Nat.le_of_ble_eq_true rfl) (by decide) (by decide) hR (ho_A hR) dX12_image_97 (fun H locs hR => ?_)
      refine lv_aload_n C.1 C.2.1 dX12_image_100 rfl (lv_at hl 0 rfl) ?_
      refine lv_aload_n C.1 C.2.1 dX12_image_101 rfl (lv_at hl 0 rfl) ?_
      refine lv_iload_n C.1 C.2.1 dX12_image_102 rfl (lv_at hl 1 rfl) ?_
      obtain ⟨r4, S4, h4, h⟩ := ob2_ok h
      refine hr_Vi (v := r4) (S' := S4) (As := [.int x1]) (rest := [.ref (E.2.1 0)]) C cf12 (c_X12_knownOf l E x1 _ _ h4) yv_X12_knownOf lk_RX12_449 rfl aM_0 rfl rfl hl.1 (Nat.le_of_ble_eq_true rfl) (by decide) (by decide) hR (ho_A hR) dX12_image_103 (fun H locs hR => ?_)
      obtain ⟨S5, h5, h⟩ := ob_ok h
      refine hr_Vv (S' := S5) (As := [.int r4]) (rest := []) C cf12 (c_X12_writesTwo l E r4 _ _ h5) yv_X12_writesTwo lk_RX12_707 rfl aM_0 rfl rfl hl.1 (Nat.le_of_ble_eq_true rfl) (by decide) (by decide) hR (ho_A hR) dX12_image_106 (fun H locs hR => ?_)
      obtain ⟨v6, e6, h⟩ := le1_ok h
      refine lv_iinc (v := v6) (lv' := [(1, .int v6), (0, .ref (E.2.1 0))]) C.1 C.2.1 dX12_image_109 hl (k := 1) rfl (by rw [e6]; rfl) (by decide) rfl (fun ls hl => ?_)
      refine lv_goto (tgt := 83) C.1 C.2.1 dX12_image_112 (by decide) ?_
      exact ih v6 S5 h _ _ _ hR (lv_sub hl [1, 0] rfl)
def f_X12_image_55 : Nat → Int32 → Hp → Option (Int32 × Hp)
  | 0, _, _ => none
  | k + 1, x1, S => ob2 (f_X12_provinceMany S) (fun r1 S1 => if r1 ≤ x1 then f_X12_image_83 5000 (0 : Int32) S1 else ldI S1 55 117 ((3 : Int32) + x1) (fun v2 => ob (f_X12_writesTwo v2 S1) (fun S3 => le1 (x1 + (1 : Int32)) (fun v4 => f_X12_image_55 k v4 S3))))
set_option maxHeartbeats 4000000 in
set_option maxRecDepth 100000 in
theorem w_X12_image_55 {p : Program} {l : Launch} {e : Env} {s : State} {m : MethodId} {args : Array Value} {below : List Frame} {meth : Method} {c : Code} {E : Ev} {S0 : Hp} {r : (Int32 × Hp)} (C : ho_I p s m args meth c RX12 cX12_image 2 (some .int)) :
    ∀ (k : Nat) (x1 : Int32) (S : Hp), f_X12_image_55 k x1 S = some r → ho_G p l e s m args below meth c yM E S0 2 2 (some (.int r.1), r.2) 55 [(0, .ref (E.2.1 0)), (1, .int x1)] [] S := by
  intro k
  induction k with
  | zero =>
    intro x1 S h
    exact absurd (show (none : Option (Int32 × Hp)) = some r from h) (by simp)
  | succ k ih =>
    intro x1 S h H locs ls hR hl
    rw [f_X12_image_55] at h
    refine lv_iload_n C.1 C.2.1 dX12_image_55 rfl (lv_at hl 1 rfl) ?_
    refine lv_aload_n C.1 C.2.1 dX12_image_56 rfl (lv_at hl 0 rfl) ?_
    obtain ⟨r1, S1, h1, h⟩ := ob2_ok h
    refine hr_Vi (v := r1) (S' := S1) (As := []) (rest := [.int x1]) C cf12 (c_X12_provinceMany l E _ _ h1) yv_X12_provinceMany lk_RX12_407 rfl aM_0 rfl rfl hl.1 (Nat.le_of_ble_eq_true rfl) (by decide) (by decide) hR (ho_A hR) dX12_image_57 (fun H locs hR => ?_)
    refine lv_icmp_ge (tgt := 81) C.1 C.2.1 dX12_image_60 (by decide) (fun hc => ?_) (fun hc => ?_)
    · replace h := if_t h hc
      refine lv_iconst (v := (0 : Int32)) C.1 C.2.1 dX12_image_81 (by decide) ?_
      refine lv_istore_n (lv' := [(1, .int (0 : Int32)), (0, .ref (E.2.1 0))]) C.1 C.2.1 dX12_image_82 rfl hl (by decide) rfl (fun ls hl => ?_)
      exact w_X12_image_83 C 5000 (0 : Int32) S1 h _ _ _ hR (lv_sub hl [1, 0] rfl)
    · replace h := if_f h hc
      refine lv_aload_n C.1 C.2.1 dX12_image_63 rfl (lv_at hl 0 rfl) ?_
      refine lv_aload_n C.1 C.2.1 dX12_image_64 rfl (lv_at hl 0 rfl) ?_
      refine ho_getR (a' := 55) C cf12 fM_139 hR aM_0 rfl dX12_image_65 ?_
      refine lv_iconst (v := (3 : Int32)) C.1 C.2.1 dX12_image_68 (by decide) ?_
      refine lv_iload_n C.1 C.2.1 dX12_image_69 rfl (lv_at hl 1 rfl) ?_
      refine lv_iadd C.1 C.2.1 dX12_image_70 ?_
      obtain ⟨v2, e2, hi2, h⟩ := ldI_ok h
      refine hr_ild C hR aM_55 hi2 e2 dX12_image_71 ?_
      obtain ⟨S3, h3, h⟩ := ob_ok h
      refine hr_Vv (S' := S3) (As := [.int v2]) (rest := []) C cf12 (c_X12_writesTwo l E v2 _ _ h3) yv_X12_writesTwo lk_RX12_707 rfl aM_0 rfl rfl hl.1 (Nat.le_of_ble_eq_true rfl) (by decide) (by decide) hR (ho_A hR) dX12_image_72 (fun H locs hR => ?_)
      obtain ⟨v4, e4, h⟩ := le1_ok h
      refine lv_iinc (v := v4) (lv' := [(1, .int v4), (0, .ref (E.2.1 0))]) C.1 C.2.1 dX12_image_75 hl (k := 1) rfl (by rw [e4]; rfl) (by decide) rfl (fun ls hl => ?_)
      refine lv_goto (tgt := 55) C.1 C.2.1 dX12_image_78 (by decide) ?_
      exact ih v4 S3 h _ _ _ hR (lv_sub hl [1, 0] rfl)
def f_X12_image (S : Hp) : Option (Int32 × Hp) :=
  le1 (ho_sI S 0 110 (0 : Int32)) (fun S1 => ldI S1 55 117 (0 : Int32) (fun v2 => ob (f_X12_writesTwo v2 S1) (fun S3 => ldI S3 55 117 (1 : Int32) (fun v4 => ob (f_X12_writes (v4 / (65536 : Int32)) S3) (fun S5 => ldI S5 55 117 (1 : Int32) (fun v6 => ob (f_X12_writesTwo (v6 - v6 / (65536 : Int32) * (65536 : Int32)) S5) (fun S7 => ldI S7 55 117 (2 : Int32) (fun v8 => ob (f_X12_writes v8 S7) (fun S9 => f_X12_image_55 5000 (0 : Int32) S9)))))))))
set_option maxHeartbeats 4000000 in
set_option maxRecDepth 100000 in
theorem c_X12_image (l : Launch) (E : Ev) (S : Hp) (r : (Int32 × Hp)) (h : f_X12_image S = some r) : ho_M l yM E yX12_image cX12_image 2 (some .int) 2 [.ref (E.2.1 0)] S (some (.int r.1), r.2) := by
  refine ho_in (by decide) (Nat.le_of_ble_eq_true rfl) ?_
  intro p e s m args below meth c C hR ls hl
  have C : ho_I p s m args meth c RX12 cX12_image 2 (some .int) := C
  have hl : lv_has ls 2 [(0, .ref (E.2.1 0))] := hl
  unfold f_X12_image at h
  refine lv_aload_n C.1 C.2.1 dX12_image_0 rfl (lv_at hl 0 rfl) ?_
  refine lv_iconst (v := (0 : Int32)) C.1 C.2.1 dX12_image_1 (by decide) ?_
  obtain ⟨S1, e1, h⟩ := le1_ok h
  refine hr_putI C cf12 fM_701 hR aM_0 e1 dX12_image_2 (fun H locs hR => ?_)
  refine lv_aload_n C.1 C.2.1 dX12_image_5 rfl (lv_at hl 0 rfl) ?_
  refine lv_aload_n C.1 C.2.1 dX12_image_6 rfl (lv_at hl 0 rfl) ?_
  refine ho_getR (a' := 55) C cf12 fM_139 hR aM_0 rfl dX12_image_7 ?_
  refine lv_iconst (v := (0 : Int32)) C.1 C.2.1 dX12_image_10 (by decide) ?_
  obtain ⟨v2, e2, hi2, h⟩ := ldI_ok h
  refine hr_ild C hR aM_55 hi2 e2 dX12_image_11 ?_
  obtain ⟨S3, h3, h⟩ := ob_ok h
  refine hr_Vv (S' := S3) (As := [.int v2]) (rest := []) C cf12 (c_X12_writesTwo l E v2 _ _ h3) yv_X12_writesTwo lk_RX12_707 rfl aM_0 rfl rfl hl.1 (Nat.le_of_ble_eq_true rfl) (by decide) (by decide) hR (ho_A hR) dX12_image_12 (fun H locs hR => ?_)
  refine lv_aload_n C.1 C.2.1 dX12_image_15 rfl (lv_at hl 0 rfl) ?_
  refine lv_aload_n C.1 C.2.1 dX12_image_16 rfl (lv_at hl 0 rfl) ?_
  refine ho_getR (a' := 55) C cf12 fM_139 hR aM_0 rfl dX12_image_17 ?_
  refine lv_iconst (v := (1 : Int32)) C.1 C.2.1 dX12_image_20 (by decide) ?_
  obtain ⟨v4, e4, hi4, h⟩ := ldI_ok h
  refine hr_ild C hR aM_55 hi4 e4 dX12_image_21 ?_
  refine lv_ldcw (v := (65536 : Int32)) C.1 C.2.1 C.2.2.2.2.1 (C.2.2.2.2.2.1 _ kc_RX12_710) dX12_image_22 ?_
  refine lv_idiv C.1 C.2.1 dX12_image_25 (by decide) ?_
  obtain ⟨S5, h5, h⟩ := ob_ok h
  refine hr_Vv (S' := S5) (As := [.int (v4 / (65536 : Int32))]) (rest := []) C cf12 (c_X12_writes l E (v4 / (65536 : Int32)) _ _ h5) yv_X12_writes lk_RX12_704 rfl aM_0 rfl rfl hl.1 (Nat.le_of_ble_eq_true rfl) (by decide) (by decide) hR (ho_A hR) dX12_image_26 (fun H locs hR => ?_)
  refine lv_aload_n C.1 C.2.1 dX12_image_29 rfl (lv_at hl 0 rfl) ?_
  refine lv_aload_n C.1 C.2.1 dX12_image_30 rfl (lv_at hl 0 rfl) ?_
  refine ho_getR (a' := 55) C cf12 fM_139 hR aM_0 rfl dX12_image_31 ?_
  refine lv_iconst (v := (1 : Int32)) C.1 C.2.1 dX12_image_34 (by decide) ?_
  obtain ⟨v6, e6, hi6, h⟩ := ldI_ok h
  refine hr_ild C hR aM_55 hi6 e6 dX12_image_35 ?_
  refine lv_ldcw (v := (65536 : Int32)) C.1 C.2.1 C.2.2.2.2.1 (C.2.2.2.2.2.1 _ kc_RX12_710) dX12_image_36 ?_
  refine lv_irem C.1 C.2.1 dX12_image_39 (by decide) ?_
  obtain ⟨S7, h7, h⟩ := ob_ok h
  refine hr_Vv (S' := S7) (As := [.int (v6 - v6 / (65536 : Int32) * (65536 : Int32))]) (rest := []) C cf12 (c_X12_writesTwo l E (v6 - v6 / (65536 : Int32) * (65536 : Int32)) _ _ h7) yv_X12_writesTwo lk_RX12_707 rfl aM_0 rfl rfl hl.1 (Nat.le_of_ble_eq_true rfl) (by decide) (by decide) hR (ho_A hR) dX12_image_40 (fun H locs hR => ?_)
  refine lv_aload_n C.1 C.2.1 dX12_image_43 rfl (lv_at hl 0 rfl) ?_
  refine lv_aload_n C.1 C.2.1 dX12_image_44 rfl (lv_at hl 0 rfl) ?_
  refine ho_getR (a' := 55) C cf12 fM_139 hR aM_0 rfl dX12_image_45 ?_
  refine lv_iconst (v := (2 : Int32)) C.1 C.2.1 dX12_image_48 (by decide) ?_
  obtain ⟨v8, e8, hi8, h⟩ := ldI_ok h
  refine hr_ild C hR aM_55 hi8 e8 dX12_image_49 ?_
  obtain ⟨S9, h9, h⟩ := ob_ok h
  refine hr_Vv (S' := S9) (As := [.int v8]) (rest := []) C cf12 (c_X12_writes l E v8 _ _ h9) yv_X12_writes lk_RX12_704 rfl aM_0 rfl rfl hl.1 (Nat.le_of_ble_eq_true rfl) (by decide) (by decide) hR (ho_A hR) dX12_image_50 (fun H locs hR => ?_)
  refine lv_iconst (v := (0 : Int32)) C.1 C.2.1 dX12_image_53 (by decide) ?_
  refine lv_istore_n (lv' := [(1, .int (0 : Int32)), (0, .ref (E.2.1 0))]) C.1 C.2.1 dX12_image_54 rfl hl (by decide) rfl (fun ls hl => ?_)
  exact w_X12_image_55 C 5000 (0 : Int32) S9 h _ _ _ hR (lv_sub hl [1, 0] rfl)
theorem dX12_octet_0 : decode cX12_octet 0 = .ok (.iload_n 1, 1) := by decide +kernel
theorem dX12_octet_1 : decode cX12_octet 1 = .ok (.ifCond .lt 20, 3) := by decide +kernel
theorem dX12_octet_4 : decode cX12_octet 4 = .ok (.iload_n 1, 1) := by decide +kernel
theorem dX12_octet_5 : decode cX12_octet 5 = .ok (.aload_n 0, 1) := by decide +kernel
theorem dX12_octet_6 : decode cX12_octet 6 = .ok (.getfield 701, 3) := by decide +kernel
theorem dX12_octet_9 : decode cX12_octet 9 = .ok (.if_icmp .ge 12, 3) := by decide +kernel
theorem dX12_octet_12 : decode cX12_octet 12 = .ok (.aload_n 0, 1) := by decide +kernel
theorem dX12_octet_13 : decode cX12_octet 13 = .ok (.getfield 258, 3) := by decide +kernel
theorem dX12_octet_16 : decode cX12_octet 16 = .ok (.iload_n 1, 1) := by decide +kernel
theorem dX12_octet_17 : decode cX12_octet 17 = .ok (.iaload, 1) := by decide +kernel
theorem dX12_octet_18 : decode cX12_octet 18 = .ok (.goto 4, 3) := by decide +kernel
theorem dX12_octet_21 : decode cX12_octet 21 = .ok (.iconst (-1), 1) := by decide +kernel
theorem dX12_octet_22 : decode cX12_octet 22 = .ok (.ireturn, 1) := by decide +kernel
def f_X12_octet (x1 : Int32) (S : Hp) : Option (Int32 × Hp) :=
  if x1 < 0 then some ((-1 : Int32), S) else if (S.1 0 110) ≤ x1 then some ((-1 : Int32), S) else ldI S 110 48 x1 (fun v1 => some (v1, S))
set_option maxHeartbeats 4000000 in
set_option maxRecDepth 100000 in
theorem c_X12_octet (l : Launch) (E : Ev) (x1 : Int32) (S : Hp) (r : (Int32 × Hp)) (h : f_X12_octet x1 S = some r) : ho_M l yM E yX12_octet cX12_octet 2 (some .int) 0 [.ref (E.2.1 0), .int x1] S (some (.int r.1), r.2) := by
  refine ho_in (by decide) (Nat.le_of_ble_eq_true rfl) ?_
  intro p e s m args below meth c C hR ls hl
  have C : ho_I p s m args meth c RX12 cX12_octet 2 (some .int) := C
  have hl : lv_has ls 2 [(0, .ref (E.2.1 0)), (1, .int x1)] := hl
  unfold f_X12_octet at h
  refine lv_iload_n C.1 C.2.1 dX12_octet_0 rfl (lv_at hl 1 rfl) ?_
  refine lv_if_lt (tgt := 21) C.1 C.2.1 dX12_octet_1 (by decide) (fun hc => ?_) (fun hc => ?_)
  · replace h := if_t h hc
    refine lv_iconst (v := (-1 : Int32)) C.1 C.2.1 dX12_octet_21 (by decide) ?_
    exact ho_iret C hR h dX12_octet_22
  · replace h := if_f h hc
    refine lv_iload_n C.1 C.2.1 dX12_octet_4 rfl (lv_at hl 1 rfl) ?_
    refine lv_aload_n C.1 C.2.1 dX12_octet_5 rfl (lv_at hl 0 rfl) ?_
    refine ho_getI C cf12 fM_701 hR aM_0 dX12_octet_6 ?_
    refine lv_icmp_ge (tgt := 21) C.1 C.2.1 dX12_octet_9 (by decide) (fun hc => ?_) (fun hc => ?_)
    · replace h := if_t h hc
      refine lv_iconst (v := (-1 : Int32)) C.1 C.2.1 dX12_octet_21 (by decide) ?_
      exact ho_iret C hR h dX12_octet_22
    · replace h := if_f h hc
      refine lv_aload_n C.1 C.2.1 dX12_octet_12 rfl (lv_at hl 0 rfl) ?_
      refine ho_getR (a' := 110) C cf12 fM_258 hR aM_0 rfl dX12_octet_13 ?_
      refine lv_iload_n C.1 C.2.1 dX12_octet_16 rfl (lv_at hl 1 rfl) ?_
      obtain ⟨v1, e1, hi1, h⟩ := ldI_ok h
      refine hr_ild C hR aM_110 hi1 e1 dX12_octet_17 ?_
      refine lv_goto (tgt := 22) C.1 C.2.1 dX12_octet_18 (by decide) ?_
      exact ho_iret C hR h dX12_octet_22
theorem dX12_twoAt_0 : decode cX12_twoAt 0 = .ok (.sipush 256, 3) := by decide +kernel
theorem dX12_twoAt_3 : decode cX12_twoAt 3 = .ok (.aload_n 0, 1) := by decide +kernel
theorem dX12_twoAt_4 : decode cX12_twoAt 4 = .ok (.getfield 7, 3) := by decide +kernel
theorem dX12_twoAt_7 : decode cX12_twoAt 7 = .ok (.iload_n 1, 1) := by decide +kernel
theorem dX12_twoAt_8 : decode cX12_twoAt 8 = .ok (.iaload, 1) := by decide +kernel
theorem dX12_twoAt_9 : decode cX12_twoAt 9 = .ok (.imul, 1) := by decide +kernel
theorem dX12_twoAt_10 : decode cX12_twoAt 10 = .ok (.aload_n 0, 1) := by decide +kernel
theorem dX12_twoAt_11 : decode cX12_twoAt 11 = .ok (.getfield 7, 3) := by decide +kernel
theorem dX12_twoAt_14 : decode cX12_twoAt 14 = .ok (.iload_n 1, 1) := by decide +kernel
theorem dX12_twoAt_15 : decode cX12_twoAt 15 = .ok (.iconst 1, 1) := by decide +kernel
theorem dX12_twoAt_16 : decode cX12_twoAt 16 = .ok (.iadd, 1) := by decide +kernel
theorem dX12_twoAt_17 : decode cX12_twoAt 17 = .ok (.iaload, 1) := by decide +kernel
theorem dX12_twoAt_18 : decode cX12_twoAt 18 = .ok (.iadd, 1) := by decide +kernel
theorem dX12_twoAt_19 : decode cX12_twoAt 19 = .ok (.ireturn, 1) := by decide +kernel
def f_X12_twoAt (x1 : Int32) (S : Hp) : Option (Int32 × Hp) :=
  ldI S 1 1600 x1 (fun v1 => ldI S 1 1600 (x1 + (1 : Int32)) (fun v2 => some ((((256 : Int32) * v1) + v2), S)))
set_option maxHeartbeats 4000000 in
set_option maxRecDepth 100000 in
theorem c_X12_twoAt (l : Launch) (E : Ev) (x1 : Int32) (S : Hp) (r : (Int32 × Hp)) (h : f_X12_twoAt x1 S = some r) : ho_M l yM E yX12_twoAt cX12_twoAt 2 (some .int) 0 [.ref (E.2.1 0), .int x1] S (some (.int r.1), r.2) := by
  refine ho_in (by decide) (Nat.le_of_ble_eq_true rfl) ?_
  intro p e s m args below meth c C hR ls hl
  have C : ho_I p s m args meth c RX12 cX12_twoAt 2 (some .int) := C
  have hl : lv_has ls 2 [(0, .ref (E.2.1 0)), (1, .int x1)] := hl
  unfold f_X12_twoAt at h
  refine lv_sipush (v := (256 : Int32)) C.1 C.2.1 dX12_twoAt_0 (by decide) ?_
  refine lv_aload_n C.1 C.2.1 dX12_twoAt_3 rfl (lv_at hl 0 rfl) ?_
  refine ho_getR (a' := 1) C cf12 fM_7 hR aM_0 rfl dX12_twoAt_4 ?_
  refine lv_iload_n C.1 C.2.1 dX12_twoAt_7 rfl (lv_at hl 1 rfl) ?_
  obtain ⟨v1, e1, hi1, h⟩ := ldI_ok h
  refine hr_ild C hR aM_1 hi1 e1 dX12_twoAt_8 ?_
  refine lv_imul C.1 C.2.1 dX12_twoAt_9 ?_
  refine lv_aload_n C.1 C.2.1 dX12_twoAt_10 rfl (lv_at hl 0 rfl) ?_
  refine ho_getR (a' := 1) C cf12 fM_7 hR aM_0 rfl dX12_twoAt_11 ?_
  refine lv_iload_n C.1 C.2.1 dX12_twoAt_14 rfl (lv_at hl 1 rfl) ?_
  refine lv_iconst (v := (1 : Int32)) C.1 C.2.1 dX12_twoAt_15 (by decide) ?_
  refine lv_iadd C.1 C.2.1 dX12_twoAt_16 ?_
  obtain ⟨v2, e2, hi2, h⟩ := ldI_ok h
  refine hr_ild C hR aM_1 hi2 e2 dX12_twoAt_17 ?_
  refine lv_iadd C.1 C.2.1 dX12_twoAt_18 ?_
  exact ho_iret C hR h dX12_twoAt_19
theorem dX12_isImage_0 : decode cX12_isImage 0 = .ok (.bipush 6, 2) := by decide +kernel
theorem dX12_isImage_2 : decode cX12_isImage 2 = .ok (.iconst 2, 1) := by decide +kernel
theorem dX12_isImage_3 : decode cX12_isImage 3 = .ok (.aload_n 0, 1) := by decide +kernel
theorem dX12_isImage_4 : decode cX12_isImage 4 = .ok (.invokevirtual 407, 3) := by decide +kernel
theorem dX12_isImage_7 : decode cX12_isImage 7 = .ok (.imul, 1) := by decide +kernel
theorem dX12_isImage_8 : decode cX12_isImage 8 = .ok (.iadd, 1) := by decide +kernel
theorem dX12_isImage_9 : decode cX12_isImage 9 = .ok (.istore_n 2, 1) := by decide +kernel
theorem dX12_isImage_10 : decode cX12_isImage 10 = .ok (.iload_n 2, 1) := by decide +kernel
theorem dX12_isImage_11 : decode cX12_isImage 11 = .ok (.iconst 4, 1) := by decide +kernel
theorem dX12_isImage_12 : decode cX12_isImage 12 = .ok (.aload_n 0, 1) := by decide +kernel
theorem dX12_isImage_13 : decode cX12_isImage 13 = .ok (.invokevirtual 410, 3) := by decide +kernel
theorem dX12_isImage_16 : decode cX12_isImage 16 = .ok (.imul, 1) := by decide +kernel
theorem dX12_isImage_17 : decode cX12_isImage 17 = .ok (.iadd, 1) := by decide +kernel
theorem dX12_isImage_18 : decode cX12_isImage 18 = .ok (.istore_n 3, 1) := by decide +kernel
theorem dX12_isImage_19 : decode cX12_isImage 19 = .ok (.aload_n 0, 1) := by decide +kernel
theorem dX12_isImage_20 : decode cX12_isImage 20 = .ok (.getfield 397, 3) := by decide +kernel
theorem dX12_isImage_23 : decode cX12_isImage 23 = .ok (.ifCond .eq 80, 3) := by decide +kernel
theorem dX12_isImage_26 : decode cX12_isImage 26 = .ok (.iload_n 1, 1) := by decide +kernel
theorem dX12_isImage_27 : decode cX12_isImage 27 = .ok (.iload_n 3, 1) := by decide +kernel
theorem dX12_isImage_28 : decode cX12_isImage 28 = .ok (.aload_n 0, 1) := by decide +kernel
theorem dX12_isImage_29 : decode cX12_isImage 29 = .ok (.invokevirtual 413, 3) := by decide +kernel
theorem dX12_isImage_32 : decode cX12_isImage 32 = .ok (.iadd, 1) := by decide +kernel
theorem dX12_isImage_33 : decode cX12_isImage 33 = .ok (.iconst 1, 1) := by decide +kernel
theorem dX12_isImage_34 : decode cX12_isImage 34 = .ok (.iadd, 1) := by decide +kernel
theorem dX12_isImage_35 : decode cX12_isImage 35 = .ok (.if_icmp .ne 68, 3) := by decide +kernel
theorem dX12_isImage_38 : decode cX12_isImage 38 = .ok (.aload_n 0, 1) := by decide +kernel
theorem dX12_isImage_39 : decode cX12_isImage 39 = .ok (.getfield 7, 3) := by decide +kernel
theorem dX12_isImage_42 : decode cX12_isImage 42 = .ok (.iload_n 1, 1) := by decide +kernel
theorem dX12_isImage_43 : decode cX12_isImage 43 = .ok (.iconst 1, 1) := by decide +kernel
theorem dX12_isImage_44 : decode cX12_isImage 44 = .ok (.isub, 1) := by decide +kernel
theorem dX12_isImage_45 : decode cX12_isImage 45 = .ok (.iaload, 1) := by decide +kernel
theorem dX12_isImage_46 : decode cX12_isImage 46 = .ok (.aload_n 0, 1) := by decide +kernel
theorem dX12_isImage_47 : decode cX12_isImage 47 = .ok (.getfield 7, 3) := by decide +kernel
theorem dX12_isImage_50 : decode cX12_isImage 50 = .ok (.iload_n 1, 1) := by decide +kernel
theorem dX12_isImage_51 : decode cX12_isImage 51 = .ok (.iconst 1, 1) := by decide +kernel
theorem dX12_isImage_52 : decode cX12_isImage 52 = .ok (.isub, 1) := by decide +kernel
theorem dX12_isImage_53 : decode cX12_isImage 53 = .ok (.invokestatic 711, 3) := by decide +kernel
theorem dX12_isImage_56 : decode cX12_isImage 56 = .ok (.if_icmp .ne 47, 3) := by decide +kernel
theorem dX12_isImage_59 : decode cX12_isImage 59 = .ok (.aload_n 0, 1) := by decide +kernel
theorem dX12_isImage_60 : decode cX12_isImage 60 = .ok (.iconst 0, 1) := by decide +kernel
theorem dX12_isImage_61 : decode cX12_isImage 61 = .ok (.invokevirtual 715, 3) := by decide +kernel
theorem dX12_isImage_64 : decode cX12_isImage 64 = .ok (.sipush 999, 3) := by decide +kernel
theorem dX12_isImage_67 : decode cX12_isImage 67 = .ok (.if_icmp .gt 36, 3) := by decide +kernel
theorem dX12_isImage_70 : decode cX12_isImage 70 = .ok (.ldc_w 710, 3) := by decide +kernel
theorem dX12_isImage_73 : decode cX12_isImage 73 = .ok (.aload_n 0, 1) := by decide +kernel
theorem dX12_isImage_74 : decode cX12_isImage 74 = .ok (.getfield 7, 3) := by decide +kernel
theorem dX12_isImage_77 : decode cX12_isImage 77 = .ok (.iconst 2, 1) := by decide +kernel
theorem dX12_isImage_78 : decode cX12_isImage 78 = .ok (.iaload, 1) := by decide +kernel
theorem dX12_isImage_79 : decode cX12_isImage 79 = .ok (.imul, 1) := by decide +kernel
theorem dX12_isImage_80 : decode cX12_isImage 80 = .ok (.aload_n 0, 1) := by decide +kernel
theorem dX12_isImage_81 : decode cX12_isImage 81 = .ok (.iconst 3, 1) := by decide +kernel
theorem dX12_isImage_82 : decode cX12_isImage 82 = .ok (.invokevirtual 715, 3) := by decide +kernel
theorem dX12_isImage_85 : decode cX12_isImage 85 = .ok (.iadd, 1) := by decide +kernel
theorem dX12_isImage_86 : decode cX12_isImage 86 = .ok (.ldc_w 504, 3) := by decide +kernel
theorem dX12_isImage_89 : decode cX12_isImage 89 = .ok (.if_icmp .gt 14, 3) := by decide +kernel
theorem dX12_isImage_92 : decode cX12_isImage 92 = .ok (.aload_n 0, 1) := by decide +kernel
theorem dX12_isImage_93 : decode cX12_isImage 93 = .ok (.getfield 7, 3) := by decide +kernel
theorem dX12_isImage_96 : decode cX12_isImage 96 = .ok (.iconst 5, 1) := by decide +kernel
theorem dX12_isImage_97 : decode cX12_isImage 97 = .ok (.iaload, 1) := by decide +kernel
theorem dX12_isImage_98 : decode cX12_isImage 98 = .ok (.bipush 100, 2) := by decide +kernel
theorem dX12_isImage_100 : decode cX12_isImage 100 = .ok (.if_icmp .le 5, 3) := by decide +kernel
theorem dX12_isImage_103 : decode cX12_isImage 103 = .ok (.iconst 0, 1) := by decide +kernel
theorem dX12_isImage_104 : decode cX12_isImage 104 = .ok (.ireturn, 1) := by decide +kernel
theorem dX12_isImage_105 : decode cX12_isImage 105 = .ok (.bipush 6, 2) := by decide +kernel
theorem dX12_isImage_107 : decode cX12_isImage 107 = .ok (.istore 4, 2) := by decide +kernel
theorem dX12_isImage_109 : decode cX12_isImage 109 = .ok (.iload 4, 2) := by decide +kernel
theorem dX12_isImage_111 : decode cX12_isImage 111 = .ok (.iload_n 2, 1) := by decide +kernel
theorem dX12_isImage_112 : decode cX12_isImage 112 = .ok (.if_icmp .ge 23, 3) := by decide +kernel
theorem dX12_isImage_115 : decode cX12_isImage 115 = .ok (.aload_n 0, 1) := by decide +kernel
theorem dX12_isImage_116 : decode cX12_isImage 116 = .ok (.iload 4, 2) := by decide +kernel
theorem dX12_isImage_118 : decode cX12_isImage 118 = .ok (.invokevirtual 715, 3) := by decide +kernel
theorem dX12_isImage_121 : decode cX12_isImage 121 = .ok (.sipush 9999, 3) := by decide +kernel
theorem dX12_isImage_124 : decode cX12_isImage 124 = .ok (.if_icmp .le 5, 3) := by decide +kernel
theorem dX12_isImage_127 : decode cX12_isImage 127 = .ok (.iconst 0, 1) := by decide +kernel
theorem dX12_isImage_128 : decode cX12_isImage 128 = .ok (.ireturn, 1) := by decide +kernel
theorem dX12_isImage_129 : decode cX12_isImage 129 = .ok (.iinc 4 2, 3) := by decide +kernel
theorem dX12_isImage_132 : decode cX12_isImage 132 = .ok (.goto (-23), 3) := by decide +kernel
theorem dX12_isImage_135 : decode cX12_isImage 135 = .ok (.iload_n 2, 1) := by decide +kernel
theorem dX12_isImage_136 : decode cX12_isImage 136 = .ok (.istore 4, 2) := by decide +kernel
theorem dX12_isImage_138 : decode cX12_isImage 138 = .ok (.iload 4, 2) := by decide +kernel
theorem dX12_isImage_140 : decode cX12_isImage 140 = .ok (.iload_n 3, 1) := by decide +kernel
theorem dX12_isImage_141 : decode cX12_isImage 141 = .ok (.if_icmp .ge 37, 3) := by decide +kernel
theorem dX12_isImage_144 : decode cX12_isImage 144 = .ok (.aload_n 0, 1) := by decide +kernel
theorem dX12_isImage_145 : decode cX12_isImage 145 = .ok (.iload 4, 2) := by decide +kernel
theorem dX12_isImage_147 : decode cX12_isImage 147 = .ok (.invokevirtual 715, 3) := by decide +kernel
theorem dX12_isImage_150 : decode cX12_isImage 150 = .ok (.sipush 9999, 3) := by decide +kernel
theorem dX12_isImage_153 : decode cX12_isImage 153 = .ok (.if_icmp .gt 17, 3) := by decide +kernel
theorem dX12_isImage_156 : decode cX12_isImage 156 = .ok (.aload_n 0, 1) := by decide +kernel
theorem dX12_isImage_157 : decode cX12_isImage 157 = .ok (.iload 4, 2) := by decide +kernel
theorem dX12_isImage_159 : decode cX12_isImage 159 = .ok (.iconst 2, 1) := by decide +kernel
theorem dX12_isImage_160 : decode cX12_isImage 160 = .ok (.iadd, 1) := by decide +kernel
theorem dX12_isImage_161 : decode cX12_isImage 161 = .ok (.invokevirtual 715, 3) := by decide +kernel
theorem dX12_isImage_164 : decode cX12_isImage 164 = .ok (.sipush 999, 3) := by decide +kernel
theorem dX12_isImage_167 : decode cX12_isImage 167 = .ok (.if_icmp .le 5, 3) := by decide +kernel
theorem dX12_isImage_170 : decode cX12_isImage 170 = .ok (.iconst 0, 1) := by decide +kernel
theorem dX12_isImage_171 : decode cX12_isImage 171 = .ok (.ireturn, 1) := by decide +kernel
theorem dX12_isImage_172 : decode cX12_isImage 172 = .ok (.iinc 4 4, 3) := by decide +kernel
theorem dX12_isImage_175 : decode cX12_isImage 175 = .ok (.goto (-37), 3) := by decide +kernel
theorem dX12_isImage_178 : decode cX12_isImage 178 = .ok (.iload_n 3, 1) := by decide +kernel
theorem dX12_isImage_179 : decode cX12_isImage 179 = .ok (.istore 4, 2) := by decide +kernel
theorem dX12_isImage_181 : decode cX12_isImage 181 = .ok (.iload 4, 2) := by decide +kernel
theorem dX12_isImage_183 : decode cX12_isImage 183 = .ok (.iload_n 1, 1) := by decide +kernel
theorem dX12_isImage_184 : decode cX12_isImage 184 = .ok (.iconst 1, 1) := by decide +kernel
theorem dX12_isImage_185 : decode cX12_isImage 185 = .ok (.isub, 1) := by decide +kernel
theorem dX12_isImage_186 : decode cX12_isImage 186 = .ok (.if_icmp .ge 23, 3) := by decide +kernel
theorem dX12_isImage_189 : decode cX12_isImage 189 = .ok (.aload_n 0, 1) := by decide +kernel
theorem dX12_isImage_190 : decode cX12_isImage 190 = .ok (.getfield 7, 3) := by decide +kernel
theorem dX12_isImage_193 : decode cX12_isImage 193 = .ok (.iload 4, 2) := by decide +kernel
theorem dX12_isImage_195 : decode cX12_isImage 195 = .ok (.iaload, 1) := by decide +kernel
theorem dX12_isImage_196 : decode cX12_isImage 196 = .ok (.bipush 9, 2) := by decide +kernel
theorem dX12_isImage_198 : decode cX12_isImage 198 = .ok (.if_icmp .le 5, 3) := by decide +kernel
theorem dX12_isImage_201 : decode cX12_isImage 201 = .ok (.iconst 0, 1) := by decide +kernel
theorem dX12_isImage_202 : decode cX12_isImage 202 = .ok (.ireturn, 1) := by decide +kernel
theorem dX12_isImage_203 : decode cX12_isImage 203 = .ok (.iinc 4 1, 3) := by decide +kernel
theorem dX12_isImage_206 : decode cX12_isImage 206 = .ok (.goto (-25), 3) := by decide +kernel
theorem dX12_isImage_209 : decode cX12_isImage 209 = .ok (.iconst 1, 1) := by decide +kernel
theorem dX12_isImage_210 : decode cX12_isImage 210 = .ok (.ireturn, 1) := by decide +kernel
def f_X12_isImage_181 : Nat → Int32 → Int32 → Hp → Option (Int32 × Hp)
  | 0, _, _, _ => none
  | k + 1, x1, x4, S => if (x1 - (1 : Int32)) ≤ x4 then some ((1 : Int32), S) else ldI S 1 1600 x4 (fun v1 => if v1 ≤ (9 : Int32) then le1 (x4 + (1 : Int32)) (fun v2 => f_X12_isImage_181 k x1 v2 S) else some ((0 : Int32), S))
set_option maxHeartbeats 4000000 in
set_option maxRecDepth 100000 in
theorem w_X12_isImage_181 {p : Program} {l : Launch} {e : Env} {s : State} {m : MethodId} {args : Array Value} {below : List Frame} {meth : Method} {c : Code} {E : Ev} {S0 : Hp} {r : (Int32 × Hp)} (C : ho_I p s m args meth c RX12 cX12_isImage 5 (some .boolean)) :
    ∀ (k : Nat) (x1 : Int32) (x4 : Int32) (S : Hp), f_X12_isImage_181 k x1 x4 S = some r → ho_G p l e s m args below meth c yM E S0 1 5 (some (.int r.1), r.2) 181 [(0, .ref (E.2.1 0)), (1, .int x1), (4, .int x4)] [] S := by
  intro k
  induction k with
  | zero =>
    intro x1 x4 S h
    exact absurd (show (none : Option (Int32 × Hp)) = some r from h) (by simp)
  | succ k ih =>
    intro x1 x4 S h H locs ls hR hl
    rw [f_X12_isImage_181] at h
    refine lv_iload C.1 C.2.1 dX12_isImage_181 (lv_at hl 2 rfl) ?_
    refine lv_iload_n C.1 C.2.1 dX12_isImage_183 rfl (lv_at hl 1 rfl) ?_
    refine lv_iconst (v := (1 : Int32)) C.1 C.2.1 dX12_isImage_184 (by decide) ?_
    refine lv_isub C.1 C.2.1 dX12_isImage_185 ?_
    refine lv_icmp_ge (tgt := 209) C.1 C.2.1 dX12_isImage_186 (by decide) (fun hc => ?_) (fun hc => ?_)
    · replace h := if_t h hc
      refine lv_iconst (v := (1 : Int32)) C.1 C.2.1 dX12_isImage_209 (by decide) ?_
      exact ho_zret C hR (Or.inr rfl) h dX12_isImage_210
    · replace h := if_f h hc
      refine lv_aload_n C.1 C.2.1 dX12_isImage_189 rfl (lv_at hl 0 rfl) ?_
      refine ho_getR (a' := 1) C cf12 fM_7 hR aM_0 rfl dX12_isImage_190 ?_
      refine lv_iload C.1 C.2.1 dX12_isImage_193 (lv_at hl 2 rfl) ?_
      obtain ⟨v1, e1, hi1, h⟩ := ldI_ok h
      refine hr_ild C hR aM_1 hi1 e1 dX12_isImage_195 ?_
      refine lv_bipush (v := (9 : Int32)) C.1 C.2.1 dX12_isImage_196 (by decide) ?_
      refine lv_icmp_le (tgt := 203) C.1 C.2.1 dX12_isImage_198 (by decide) (fun hc => ?_) (fun hc => ?_)
      · replace h := if_t h hc
        obtain ⟨v2, e2, h⟩ := le1_ok h
        refine lv_iinc (v := v2) (lv' := [(4, .int v2), (0, .ref (E.2.1 0)), (1, .int x1)]) C.1 C.2.1 dX12_isImage_203 hl (k := 2) rfl (by rw [e2]; rfl) (by decide) rfl (fun ls hl => ?_)
        refine lv_goto (tgt := 181) C.1 C.2.1 dX12_isImage_206 (by decide) ?_
        exact ih x1 v2 S h _ _ _ hR (lv_sub hl [1, 2, 0] rfl)
      · replace h := if_f h hc
        refine lv_iconst (v := (0 : Int32)) C.1 C.2.1 dX12_isImage_201 (by decide) ?_
        exact ho_zret C hR (Or.inl rfl) h dX12_isImage_202
def f_X12_isImage_138 : Nat → Int32 → Int32 → Int32 → Hp → Option (Int32 × Hp)
  | 0, _, _, _, _ => none
  | k + 1, x1, x3, x4, S => if x3 ≤ x4 then f_X12_isImage_181 5000 x1 x3 S else ob2 (f_X12_twoAt x4 S) (fun r1 S1 => if (9999 : Int32) < r1 then some ((0 : Int32), S1) else ob2 (f_X12_twoAt (x4 + (2 : Int32)) S1) (fun r2 S2 => if r2 ≤ (999 : Int32) then le1 (x4 + (4 : Int32)) (fun v3 => f_X12_isImage_138 k x1 x3 v3 S2) else some ((0 : Int32), S2)))
set_option maxHeartbeats 4000000 in
set_option maxRecDepth 100000 in
theorem w_X12_isImage_138 {p : Program} {l : Launch} {e : Env} {s : State} {m : MethodId} {args : Array Value} {below : List Frame} {meth : Method} {c : Code} {E : Ev} {S0 : Hp} {r : (Int32 × Hp)} (C : ho_I p s m args meth c RX12 cX12_isImage 5 (some .boolean)) :
    ∀ (k : Nat) (x1 : Int32) (x3 : Int32) (x4 : Int32) (S : Hp), f_X12_isImage_138 k x1 x3 x4 S = some r → ho_G p l e s m args below meth c yM E S0 1 5 (some (.int r.1), r.2) 138 [(0, .ref (E.2.1 0)), (1, .int x1), (3, .int x3), (4, .int x4)] [] S := by
  intro k
  induction k with
  | zero =>
    intro x1 x3 x4 S h
    exact absurd (show (none : Option (Int32 × Hp)) = some r from h) (by simp)
  | succ k ih =>
    intro x1 x3 x4 S h H locs ls hR hl
    rw [f_X12_isImage_138] at h
    refine lv_iload C.1 C.2.1 dX12_isImage_138 (lv_at hl 3 rfl) ?_
    refine lv_iload_n C.1 C.2.1 dX12_isImage_140 rfl (lv_at hl 2 rfl) ?_
    refine lv_icmp_ge (tgt := 178) C.1 C.2.1 dX12_isImage_141 (by decide) (fun hc => ?_) (fun hc => ?_)
    · replace h := if_t h hc
      refine lv_iload_n C.1 C.2.1 dX12_isImage_178 rfl (lv_at hl 2 rfl) ?_
      refine lv_istore (lv' := [(4, .int x3), (0, .ref (E.2.1 0)), (1, .int x1), (3, .int x3)]) C.1 C.2.1 dX12_isImage_179 hl (by decide) rfl (fun ls hl => ?_)
      exact w_X12_isImage_181 C 5000 x1 x3 S h _ _ _ hR (lv_sub hl [1, 2, 0] rfl)
    · replace h := if_f h hc
      refine lv_aload_n C.1 C.2.1 dX12_isImage_144 rfl (lv_at hl 0 rfl) ?_
      refine lv_iload C.1 C.2.1 dX12_isImage_145 (lv_at hl 3 rfl) ?_
      obtain ⟨r1, S1, h1, h⟩ := ob2_ok h
      refine hr_Vi (v := r1) (S' := S1) (As := [.int x4]) (rest := []) C cf12 (c_X12_twoAt l E x4 _ _ h1) yv_X12_twoAt lk_RX12_715 rfl aM_0 rfl rfl hl.1 (Nat.le_of_ble_eq_true rfl) (by decide) (by decide) hR (ho_A hR) dX12_isImage_147 (fun H locs hR => ?_)
      refine lv_sipush (v := (9999 : Int32)) C.1 C.2.1 dX12_isImage_150 (by decide) ?_
      refine lv_icmp_gt (tgt := 170) C.1 C.2.1 dX12_isImage_153 (by decide) (fun hc => ?_) (fun hc => ?_)
      · replace h := if_t h hc
        refine lv_iconst (v := (0 : Int32)) C.1 C.2.1 dX12_isImage_170 (by decide) ?_
        exact ho_zret C hR (Or.inl rfl) h dX12_isImage_171
      · replace h := if_f h hc
        refine lv_aload_n C.1 C.2.1 dX12_isImage_156 rfl (lv_at hl 0 rfl) ?_
        refine lv_iload C.1 C.2.1 dX12_isImage_157 (lv_at hl 3 rfl) ?_
        refine lv_iconst (v := (2 : Int32)) C.1 C.2.1 dX12_isImage_159 (by decide) ?_
        refine lv_iadd C.1 C.2.1 dX12_isImage_160 ?_
        obtain ⟨r2, S2, h2, h⟩ := ob2_ok h
        refine hr_Vi (v := r2) (S' := S2) (As := [.int (x4 + (2 : Int32))]) (rest := []) C cf12 (c_X12_twoAt l E (x4 + (2 : Int32)) _ _ h2) yv_X12_twoAt lk_RX12_715 rfl aM_0 rfl rfl hl.1 (Nat.le_of_ble_eq_true rfl) (by decide) (by decide) hR (ho_A hR) dX12_isImage_161 (fun H locs hR => ?_)
        refine lv_sipush (v := (999 : Int32)) C.1 C.2.1 dX12_isImage_164 (by decide) ?_
        refine lv_icmp_le (tgt := 172) C.1 C.2.1 dX12_isImage_167 (by decide) (fun hc => ?_) (fun hc => ?_)
        · replace h := if_t h hc
          obtain ⟨v3, e3, h⟩ := le1_ok h
          refine lv_iinc (v := v3) (lv' := [(4, .int v3), (0, .ref (E.2.1 0)), (1, .int x1), (3, .int x3)]) C.1 C.2.1 dX12_isImage_172 hl (k := 3) rfl (by rw [e3]; rfl) (by decide) rfl (fun ls hl => ?_)
          refine lv_goto (tgt := 138) C.1 C.2.1 dX12_isImage_175 (by decide) ?_
          exact ih x1 x3 v3 S2 h _ _ _ hR (lv_sub hl [1, 2, 3, 0] rfl)
        · replace h := if_f h hc
          refine lv_iconst (v := (0 : Int32)) C.1 C.2.1 dX12_isImage_170 (by decide) ?_
          exact ho_zret C hR (Or.inl rfl) h dX12_isImage_171
def f_X12_isImage_109 : Nat → Int32 → Int32 → Int32 → Int32 → Hp → Option (Int32 × Hp)
  | 0, _, _, _, _, _ => none
  | k + 1, x1, x2, x3, x4, S => if x2 ≤ x4 then f_X12_isImage_138 5000 x1 x3 x2 S else ob2 (f_X12_twoAt x4 S) (fun r1 S1 => if r1 ≤ (9999 : Int32) then le1 (x4 + (2 : Int32)) (fun v2 => f_X12_isImage_109 k x1 x2 x3 v2 S1) else some ((0 : Int32), S1))
set_option maxHeartbeats 4000000 in
set_option maxRecDepth 100000 in
theorem w_X12_isImage_109 {p : Program} {l : Launch} {e : Env} {s : State} {m : MethodId} {args : Array Value} {below : List Frame} {meth : Method} {c : Code} {E : Ev} {S0 : Hp} {r : (Int32 × Hp)} (C : ho_I p s m args meth c RX12 cX12_isImage 5 (some .boolean)) :
    ∀ (k : Nat) (x1 : Int32) (x2 : Int32) (x3 : Int32) (x4 : Int32) (S : Hp), f_X12_isImage_109 k x1 x2 x3 x4 S = some r → ho_G p l e s m args below meth c yM E S0 1 5 (some (.int r.1), r.2) 109 [(0, .ref (E.2.1 0)), (1, .int x1), (2, .int x2), (3, .int x3), (4, .int x4)] [] S := by
  intro k
  induction k with
  | zero =>
    intro x1 x2 x3 x4 S h
    exact absurd (show (none : Option (Int32 × Hp)) = some r from h) (by simp)
  | succ k ih =>
    intro x1 x2 x3 x4 S h H locs ls hR hl
    rw [f_X12_isImage_109] at h
    refine lv_iload C.1 C.2.1 dX12_isImage_109 (lv_at hl 4 rfl) ?_
    refine lv_iload_n C.1 C.2.1 dX12_isImage_111 rfl (lv_at hl 2 rfl) ?_
    refine lv_icmp_ge (tgt := 135) C.1 C.2.1 dX12_isImage_112 (by decide) (fun hc => ?_) (fun hc => ?_)
    · replace h := if_t h hc
      refine lv_iload_n C.1 C.2.1 dX12_isImage_135 rfl (lv_at hl 2 rfl) ?_
      refine lv_istore (lv' := [(4, .int x2), (0, .ref (E.2.1 0)), (1, .int x1), (2, .int x2), (3, .int x3)]) C.1 C.2.1 dX12_isImage_136 hl (by decide) rfl (fun ls hl => ?_)
      exact w_X12_isImage_138 C 5000 x1 x3 x2 S h _ _ _ hR (lv_sub hl [1, 2, 4, 0] rfl)
    · replace h := if_f h hc
      refine lv_aload_n C.1 C.2.1 dX12_isImage_115 rfl (lv_at hl 0 rfl) ?_
      refine lv_iload C.1 C.2.1 dX12_isImage_116 (lv_at hl 4 rfl) ?_
      obtain ⟨r1, S1, h1, h⟩ := ob2_ok h
      refine hr_Vi (v := r1) (S' := S1) (As := [.int x4]) (rest := []) C cf12 (c_X12_twoAt l E x4 _ _ h1) yv_X12_twoAt lk_RX12_715 rfl aM_0 rfl rfl hl.1 (Nat.le_of_ble_eq_true rfl) (by decide) (by decide) hR (ho_A hR) dX12_isImage_118 (fun H locs hR => ?_)
      refine lv_sipush (v := (9999 : Int32)) C.1 C.2.1 dX12_isImage_121 (by decide) ?_
      refine lv_icmp_le (tgt := 129) C.1 C.2.1 dX12_isImage_124 (by decide) (fun hc => ?_) (fun hc => ?_)
      · replace h := if_t h hc
        obtain ⟨v2, e2, h⟩ := le1_ok h
        refine lv_iinc (v := v2) (lv' := [(4, .int v2), (0, .ref (E.2.1 0)), (1, .int x1), (2, .int x2), (3, .int x3)]) C.1 C.2.1 dX12_isImage_129 hl (k := 4) rfl (by rw [e2]; rfl) (by decide) rfl (fun ls hl => ?_)
        refine lv_goto (tgt := 109) C.1 C.2.1 dX12_isImage_132 (by decide) ?_
        exact ih x1 x2 x3 v2 S1 h _ _ _ hR (lv_sub hl [1, 2, 3, 4, 0] rfl)
      · replace h := if_f h hc
        refine lv_iconst (v := (0 : Int32)) C.1 C.2.1 dX12_isImage_127 (by decide) ?_
        exact ho_zret C hR (Or.inl rfl) h dX12_isImage_128
def f_X12_isImage (x1 : Int32) (S : Hp) : Option (Int32 × Hp) :=
  ob2 (f_X12_provinceMany S) (fun r1 S1 => le1 ((6 : Int32) + ((2 : Int32) * r1)) (fun v2 => ob2 (f_X12_trickMany S1) (fun r3 S3 => le1 (v2 + ((4 : Int32) * r3)) (fun v4 => if (S3.1 0 52) = 0 then some ((0 : Int32), S3) else ob2 (f_X12_watcherMany S3) (fun r5 S5 => if x1 = ((v4 + r5) + (1 : Int32)) then ldI S5 1 1600 (x1 - (1 : Int32)) (fun v6 => ob2 (f_X12_checked 1 1600 (x1 - (1 : Int32)) S5) (fun r7 S7 => if v6 = r7 then ob2 (f_X12_twoAt (0 : Int32) S7) (fun r8 S8 => if (999 : Int32) < r8 then some ((0 : Int32), S8) else ldI S8 1 1600 (2 : Int32) (fun v9 => ob2 (f_X12_twoAt (3 : Int32) S8) (fun r10 S10 => if (99999 : Int32) < (((65536 : Int32) * v9) + r10) then some ((0 : Int32), S10) else ldI S10 1 1600 (5 : Int32) (fun v11 => if v11 ≤ (100 : Int32) then f_X12_isImage_109 5000 x1 v2 v4 (6 : Int32) S10 else some ((0 : Int32), S10))))) else some ((0 : Int32), S7))) else some ((0 : Int32), S5))))))
set_option maxHeartbeats 4000000 in
set_option maxRecDepth 100000 in
theorem c_X12_isImage (l : Launch) (E : Ev) (x1 : Int32) (S : Hp) (r : (Int32 × Hp)) (h : f_X12_isImage x1 S = some r) : ho_M l yM E yX12_isImage cX12_isImage 5 (some .boolean) 1 [.ref (E.2.1 0), .int x1] S (some (.int r.1), r.2) := by
  refine ho_in (by decide) (Nat.le_of_ble_eq_true rfl) ?_
  intro p e s m args below meth c C hR ls hl
  have C : ho_I p s m args meth c RX12 cX12_isImage 5 (some .boolean) := C
  have hl : lv_has ls 5 [(0, .ref (E.2.1 0)), (1, .int x1)] := hl
  unfold f_X12_isImage at h
  refine lv_bipush (v := (6 : Int32)) C.1 C.2.1 dX12_isImage_0 (by decide) ?_
  refine lv_iconst (v := (2 : Int32)) C.1 C.2.1 dX12_isImage_2 (by decide) ?_
  refine lv_aload_n C.1 C.2.1 dX12_isImage_3 rfl (lv_at hl 0 rfl) ?_
  obtain ⟨r1, S1, h1, h⟩ := ob2_ok h
  refine hr_Vi (v := r1) (S' := S1) (As := []) (rest := [.int (2 : Int32), .int (6 : Int32)]) C cf12 (c_X12_provinceMany l E _ _ h1) yv_X12_provinceMany lk_RX12_407 rfl aM_0 rfl rfl hl.1 (Nat.le_of_ble_eq_true rfl) (by decide) (by decide) hR (ho_A hR) dX12_isImage_4 (fun H locs hR => ?_)
  refine lv_imul C.1 C.2.1 dX12_isImage_7 ?_
  refine lv_iadd C.1 C.2.1 dX12_isImage_8 ?_
  refine lv_topi (fun v2 e2 => ?_)
  replace h := le1_at e2 h
  refine lv_istore_n (lv' := [(2, .int v2), (0, .ref (E.2.1 0)), (1, .int x1)]) C.1 C.2.1 dX12_isImage_9 rfl hl (by decide) rfl (fun ls hl => ?_)
  refine lv_iload_n C.1 C.2.1 dX12_isImage_10 rfl (lv_at hl 0 rfl) ?_
  refine lv_iconst (v := (4 : Int32)) C.1 C.2.1 dX12_isImage_11 (by decide) ?_
  refine lv_aload_n C.1 C.2.1 dX12_isImage_12 rfl (lv_at hl 1 rfl) ?_
  obtain ⟨r3, S3, h3, h⟩ := ob2_ok h
  refine hr_Vi (v := r3) (S' := S3) (As := []) (rest := [.int (4 : Int32), .int v2]) C cf12 (c_X12_trickMany l E _ _ h3) yv_X12_trickMany lk_RX12_410 rfl aM_0 rfl rfl hl.1 (Nat.le_of_ble_eq_true rfl) (by decide) (by decide) hR (ho_A hR) dX12_isImage_13 (fun H locs hR => ?_)
  refine lv_imul C.1 C.2.1 dX12_isImage_16 ?_
  refine lv_iadd C.1 C.2.1 dX12_isImage_17 ?_
  refine lv_topi (fun v4 e4 => ?_)
  replace h := le1_at e4 h
  refine lv_istore_n (lv' := [(3, .int v4), (2, .int v2), (0, .ref (E.2.1 0)), (1, .int x1)]) C.1 C.2.1 dX12_isImage_18 rfl hl (by decide) rfl (fun ls hl => ?_)
  refine lv_aload_n C.1 C.2.1 dX12_isImage_19 rfl (lv_at hl 2 rfl) ?_
  refine ho_getI C cf12 fM_397 hR aM_0 dX12_isImage_20 ?_
  refine lv_if_eq (tgt := 103) C.1 C.2.1 dX12_isImage_23 (by decide) (fun hc => ?_) (fun hc => ?_)
  · replace h := if_t h hc
    refine lv_iconst (v := (0 : Int32)) C.1 C.2.1 dX12_isImage_103 (by decide) ?_
    exact ho_zret C hR (Or.inl rfl) h dX12_isImage_104
  · replace h := if_f h hc
    refine lv_iload_n C.1 C.2.1 dX12_isImage_26 rfl (lv_at hl 3 rfl) ?_
    refine lv_iload_n C.1 C.2.1 dX12_isImage_27 rfl (lv_at hl 0 rfl) ?_
    refine lv_aload_n C.1 C.2.1 dX12_isImage_28 rfl (lv_at hl 2 rfl) ?_
    obtain ⟨r5, S5, h5, h⟩ := ob2_ok h
    refine hr_Vi (v := r5) (S' := S5) (As := []) (rest := [.int v4, .int x1]) C cf12 (c_X12_watcherMany l E _ _ h5) yv_X12_watcherMany lk_RX12_413 rfl aM_0 rfl rfl hl.1 (Nat.le_of_ble_eq_true rfl) (by decide) (by decide) hR (ho_A hR) dX12_isImage_29 (fun H locs hR => ?_)
    refine lv_iadd C.1 C.2.1 dX12_isImage_32 ?_
    refine lv_iconst (v := (1 : Int32)) C.1 C.2.1 dX12_isImage_33 (by decide) ?_
    refine lv_iadd C.1 C.2.1 dX12_isImage_34 ?_
    refine lv_icmp_ne (tgt := 103) C.1 C.2.1 dX12_isImage_35 (by decide) (fun hc => ?_) (fun hc => ?_)
    · replace h := if_f h hc
      refine lv_iconst (v := (0 : Int32)) C.1 C.2.1 dX12_isImage_103 (by decide) ?_
      exact ho_zret C hR (Or.inl rfl) h dX12_isImage_104
    · replace h := if_t h hc
      refine lv_aload_n C.1 C.2.1 dX12_isImage_38 rfl (lv_at hl 2 rfl) ?_
      refine ho_getR (a' := 1) C cf12 fM_7 hR aM_0 rfl dX12_isImage_39 ?_
      refine lv_iload_n C.1 C.2.1 dX12_isImage_42 rfl (lv_at hl 3 rfl) ?_
      refine lv_iconst (v := (1 : Int32)) C.1 C.2.1 dX12_isImage_43 (by decide) ?_
      refine lv_isub C.1 C.2.1 dX12_isImage_44 ?_
      obtain ⟨v6, e6, hi6, h⟩ := ldI_ok h
      refine hr_ild C hR aM_1 hi6 e6 dX12_isImage_45 ?_
      refine lv_aload_n C.1 C.2.1 dX12_isImage_46 rfl (lv_at hl 2 rfl) ?_
      refine ho_getR (a' := 1) C cf12 fM_7 hR aM_0 rfl dX12_isImage_47 ?_
      refine lv_iload_n C.1 C.2.1 dX12_isImage_50 rfl (lv_at hl 3 rfl) ?_
      refine lv_iconst (v := (1 : Int32)) C.1 C.2.1 dX12_isImage_51 (by decide) ?_
      refine lv_isub C.1 C.2.1 dX12_isImage_52 ?_
      obtain ⟨r7, S7, h7, h⟩ := ob2_ok h
      refine hr_Si (v := r7) (S' := S7) (As := [.ref (E.2.1 1), .int (x1 - (1 : Int32))]) (rest := [.int v6]) C (c_X12_checked l E 1 1600 (x1 - (1 : Int32)) aM_1 _ _ h7) ys_X12_checked lk_RX12_711 rfl rfl hl.1 (Nat.le_of_ble_eq_true rfl) (by decide) (by decide) hR (ho_A hR) dX12_isImage_53 (fun H locs hR => ?_)
      refine lv_icmp_ne (tgt := 103) C.1 C.2.1 dX12_isImage_56 (by decide) (fun hc => ?_) (fun hc => ?_)
      · replace h := if_f h hc
        refine lv_iconst (v := (0 : Int32)) C.1 C.2.1 dX12_isImage_103 (by decide) ?_
        exact ho_zret C hR (Or.inl rfl) h dX12_isImage_104
      · replace h := if_t h hc
        refine lv_aload_n C.1 C.2.1 dX12_isImage_59 rfl (lv_at hl 2 rfl) ?_
        refine lv_iconst (v := (0 : Int32)) C.1 C.2.1 dX12_isImage_60 (by decide) ?_
        obtain ⟨r8, S8, h8, h⟩ := ob2_ok h
        refine hr_Vi (v := r8) (S' := S8) (As := [.int (0 : Int32)]) (rest := []) C cf12 (c_X12_twoAt l E (0 : Int32) _ _ h8) yv_X12_twoAt lk_RX12_715 rfl aM_0 rfl rfl hl.1 (Nat.le_of_ble_eq_true rfl) (by decide) (by decide) hR (ho_A hR) dX12_isImage_61 (fun H locs hR => ?_)
        refine lv_sipush (v := (999 : Int32)) C.1 C.2.1 dX12_isImage_64 (by decide) ?_
        refine lv_icmp_gt (tgt := 103) C.1 C.2.1 dX12_isImage_67 (by decide) (fun hc => ?_) (fun hc => ?_)
        · replace h := if_t h hc
          refine lv_iconst (v := (0 : Int32)) C.1 C.2.1 dX12_isImage_103 (by decide) ?_
          exact ho_zret C hR (Or.inl rfl) h dX12_isImage_104
        · replace h := if_f h hc
          refine lv_ldcw (v := (65536 : Int32)) C.1 C.2.1 C.2.2.2.2.1 (C.2.2.2.2.2.1 _ kc_RX12_710) dX12_isImage_70 ?_
          refine lv_aload_n C.1 C.2.1 dX12_isImage_73 rfl (lv_at hl 2 rfl) ?_
          refine ho_getR (a' := 1) C cf12 fM_7 hR aM_0 rfl dX12_isImage_74 ?_
          refine lv_iconst (v := (2 : Int32)) C.1 C.2.1 dX12_isImage_77 (by decide) ?_
          obtain ⟨v9, e9, hi9, h⟩ := ldI_ok h
          refine hr_ild C hR aM_1 hi9 e9 dX12_isImage_78 ?_
          refine lv_imul C.1 C.2.1 dX12_isImage_79 ?_
          refine lv_aload_n C.1 C.2.1 dX12_isImage_80 rfl (lv_at hl 2 rfl) ?_
          refine lv_iconst (v := (3 : Int32)) C.1 C.2.1 dX12_isImage_81 (by decide) ?_
          obtain ⟨r10, S10, h10, h⟩ := ob2_ok h
          refine hr_Vi (v := r10) (S' := S10) (As := [.int (3 : Int32)]) (rest := [.int ((65536 : Int32) * v9)]) C cf12 (c_X12_twoAt l E (3 : Int32) _ _ h10) yv_X12_twoAt lk_RX12_715 rfl aM_0 rfl rfl hl.1 (Nat.le_of_ble_eq_true rfl) (by decide) (by decide) hR (ho_A hR) dX12_isImage_82 (fun H locs hR => ?_)
          refine lv_iadd C.1 C.2.1 dX12_isImage_85 ?_
          refine lv_ldcw (v := (99999 : Int32)) C.1 C.2.1 C.2.2.2.2.1 (C.2.2.2.2.2.1 _ kc_RX12_504) dX12_isImage_86 ?_
          refine lv_icmp_gt (tgt := 103) C.1 C.2.1 dX12_isImage_89 (by decide) (fun hc => ?_) (fun hc => ?_)
          · replace h := if_t h hc
            refine lv_iconst (v := (0 : Int32)) C.1 C.2.1 dX12_isImage_103 (by decide) ?_
            exact ho_zret C hR (Or.inl rfl) h dX12_isImage_104
          · replace h := if_f h hc
            refine lv_aload_n C.1 C.2.1 dX12_isImage_92 rfl (lv_at hl 2 rfl) ?_
            refine ho_getR (a' := 1) C cf12 fM_7 hR aM_0 rfl dX12_isImage_93 ?_
            refine lv_iconst (v := (5 : Int32)) C.1 C.2.1 dX12_isImage_96 (by decide) ?_
            obtain ⟨v11, e11, hi11, h⟩ := ldI_ok h
            refine hr_ild C hR aM_1 hi11 e11 dX12_isImage_97 ?_
            refine lv_bipush (v := (100 : Int32)) C.1 C.2.1 dX12_isImage_98 (by decide) ?_
            refine lv_icmp_le (tgt := 105) C.1 C.2.1 dX12_isImage_100 (by decide) (fun hc => ?_) (fun hc => ?_)
            · replace h := if_t h hc
              refine lv_bipush (v := (6 : Int32)) C.1 C.2.1 dX12_isImage_105 (by decide) ?_
              refine lv_istore (lv' := [(4, .int (6 : Int32)), (3, .int v4), (2, .int v2), (0, .ref (E.2.1 0)), (1, .int x1)]) C.1 C.2.1 dX12_isImage_107 hl (by decide) rfl (fun ls hl => ?_)
              exact w_X12_isImage_109 C 5000 x1 v2 v4 (6 : Int32) S10 h _ _ _ hR (lv_sub hl [3, 4, 2, 1, 0] rfl)
            · replace h := if_f h hc
              refine lv_iconst (v := (0 : Int32)) C.1 C.2.1 dX12_isImage_103 (by decide) ?_
              exact ho_zret C hR (Or.inl rfl) h dX12_isImage_104
theorem dX12_on_0 : decode cX12_on 0 = .ok (.aload_n 0, 1) := by decide +kernel
theorem dX12_on_1 : decode cX12_on 1 = .ok (.getfield 261, 3) := by decide +kernel
theorem dX12_on_4 : decode cX12_on 4 = .ok (.istore_n 1, 1) := by decide +kernel
theorem dX12_on_5 : decode cX12_on 5 = .ok (.aload_n 0, 1) := by decide +kernel
theorem dX12_on_6 : decode cX12_on 6 = .ok (.iconst 0, 1) := by decide +kernel
theorem dX12_on_7 : decode cX12_on 7 = .ok (.putfield 261, 3) := by decide +kernel
theorem dX12_on_10 : decode cX12_on 10 = .ok (.aload_n 0, 1) := by decide +kernel
theorem dX12_on_11 : decode cX12_on 11 = .ok (.iload_n 1, 1) := by decide +kernel
theorem dX12_on_12 : decode cX12_on 12 = .ok (.invokevirtual 718, 3) := by decide +kernel
theorem dX12_on_15 : decode cX12_on 15 = .ok (.ifCond .ne 15, 3) := by decide +kernel
theorem dX12_on_18 : decode cX12_on 18 = .ok (.aload_n 0, 1) := by decide +kernel
theorem dX12_on_19 : decode cX12_on 19 = .ok (.getfield 17, 3) := by decide +kernel
theorem dX12_on_22 : decode cX12_on 22 = .ok (.iconst 5, 1) := by decide +kernel
theorem dX12_on_23 : decode cX12_on 23 = .ok (.dup2, 1) := by decide +kernel
theorem dX12_on_24 : decode cX12_on 24 = .ok (.iaload, 1) := by decide +kernel
theorem dX12_on_25 : decode cX12_on 25 = .ok (.iconst 1, 1) := by decide +kernel
theorem dX12_on_26 : decode cX12_on 26 = .ok (.iadd, 1) := by decide +kernel
theorem dX12_on_27 : decode cX12_on 27 = .ok (.iastore, 1) := by decide +kernel
theorem dX12_on_28 : decode cX12_on 28 = .ok (.iconst 0, 1) := by decide +kernel
theorem dX12_on_29 : decode cX12_on 29 = .ok (.ireturn, 1) := by decide +kernel
theorem dX12_on_30 : decode cX12_on 30 = .ok (.aload_n 0, 1) := by decide +kernel
theorem dX12_on_31 : decode cX12_on 31 = .ok (.getfield 139, 3) := by decide +kernel
theorem dX12_on_34 : decode cX12_on 34 = .ok (.iconst 0, 1) := by decide +kernel
theorem dX12_on_35 : decode cX12_on 35 = .ok (.aload_n 0, 1) := by decide +kernel
theorem dX12_on_36 : decode cX12_on 36 = .ok (.iconst 0, 1) := by decide +kernel
theorem dX12_on_37 : decode cX12_on 37 = .ok (.invokevirtual 715, 3) := by decide +kernel
theorem dX12_on_40 : decode cX12_on 40 = .ok (.iastore, 1) := by decide +kernel
theorem dX12_on_41 : decode cX12_on 41 = .ok (.aload_n 0, 1) := by decide +kernel
theorem dX12_on_42 : decode cX12_on 42 = .ok (.getfield 139, 3) := by decide +kernel
theorem dX12_on_45 : decode cX12_on 45 = .ok (.iconst 1, 1) := by decide +kernel
theorem dX12_on_46 : decode cX12_on 46 = .ok (.ldc_w 710, 3) := by decide +kernel
theorem dX12_on_49 : decode cX12_on 49 = .ok (.aload_n 0, 1) := by decide +kernel
theorem dX12_on_50 : decode cX12_on 50 = .ok (.getfield 7, 3) := by decide +kernel
theorem dX12_on_53 : decode cX12_on 53 = .ok (.iconst 2, 1) := by decide +kernel
theorem dX12_on_54 : decode cX12_on 54 = .ok (.iaload, 1) := by decide +kernel
theorem dX12_on_55 : decode cX12_on 55 = .ok (.imul, 1) := by decide +kernel
theorem dX12_on_56 : decode cX12_on 56 = .ok (.aload_n 0, 1) := by decide +kernel
theorem dX12_on_57 : decode cX12_on 57 = .ok (.iconst 3, 1) := by decide +kernel
theorem dX12_on_58 : decode cX12_on 58 = .ok (.invokevirtual 715, 3) := by decide +kernel
theorem dX12_on_61 : decode cX12_on 61 = .ok (.iadd, 1) := by decide +kernel
theorem dX12_on_62 : decode cX12_on 62 = .ok (.iastore, 1) := by decide +kernel
theorem dX12_on_63 : decode cX12_on 63 = .ok (.aload_n 0, 1) := by decide +kernel
theorem dX12_on_64 : decode cX12_on 64 = .ok (.getfield 139, 3) := by decide +kernel
theorem dX12_on_67 : decode cX12_on 67 = .ok (.iconst 2, 1) := by decide +kernel
theorem dX12_on_68 : decode cX12_on 68 = .ok (.aload_n 0, 1) := by decide +kernel
theorem dX12_on_69 : decode cX12_on 69 = .ok (.getfield 7, 3) := by decide +kernel
theorem dX12_on_72 : decode cX12_on 72 = .ok (.iconst 5, 1) := by decide +kernel
theorem dX12_on_73 : decode cX12_on 73 = .ok (.iaload, 1) := by decide +kernel
theorem dX12_on_74 : decode cX12_on 74 = .ok (.iastore, 1) := by decide +kernel
theorem dX12_on_75 : decode cX12_on 75 = .ok (.bipush 6, 2) := by decide +kernel
theorem dX12_on_77 : decode cX12_on 77 = .ok (.istore_n 2, 1) := by decide +kernel
theorem dX12_on_78 : decode cX12_on 78 = .ok (.iconst 0, 1) := by decide +kernel
theorem dX12_on_79 : decode cX12_on 79 = .ok (.istore_n 3, 1) := by decide +kernel
theorem dX12_on_80 : decode cX12_on 80 = .ok (.iload_n 3, 1) := by decide +kernel
theorem dX12_on_81 : decode cX12_on 81 = .ok (.aload_n 0, 1) := by decide +kernel
theorem dX12_on_82 : decode cX12_on 82 = .ok (.invokevirtual 407, 3) := by decide +kernel
theorem dX12_on_85 : decode cX12_on 85 = .ok (.if_icmp .ge 25, 3) := by decide +kernel
theorem dX12_on_88 : decode cX12_on 88 = .ok (.aload_n 0, 1) := by decide +kernel
theorem dX12_on_89 : decode cX12_on 89 = .ok (.getfield 139, 3) := by decide +kernel
theorem dX12_on_92 : decode cX12_on 92 = .ok (.iconst 3, 1) := by decide +kernel
theorem dX12_on_93 : decode cX12_on 93 = .ok (.iload_n 3, 1) := by decide +kernel
theorem dX12_on_94 : decode cX12_on 94 = .ok (.iadd, 1) := by decide +kernel
theorem dX12_on_95 : decode cX12_on 95 = .ok (.aload_n 0, 1) := by decide +kernel
theorem dX12_on_96 : decode cX12_on 96 = .ok (.iload_n 2, 1) := by decide +kernel
theorem dX12_on_97 : decode cX12_on 97 = .ok (.invokevirtual 715, 3) := by decide +kernel
theorem dX12_on_100 : decode cX12_on 100 = .ok (.iastore, 1) := by decide +kernel
theorem dX12_on_101 : decode cX12_on 101 = .ok (.iinc 2 2, 3) := by decide +kernel
theorem dX12_on_104 : decode cX12_on 104 = .ok (.iinc 3 1, 3) := by decide +kernel
theorem dX12_on_107 : decode cX12_on 107 = .ok (.goto (-27), 3) := by decide +kernel
theorem dX12_on_110 : decode cX12_on 110 = .ok (.iconst 0, 1) := by decide +kernel
theorem dX12_on_111 : decode cX12_on 111 = .ok (.istore_n 3, 1) := by decide +kernel
theorem dX12_on_112 : decode cX12_on 112 = .ok (.iload_n 3, 1) := by decide +kernel
theorem dX12_on_113 : decode cX12_on 113 = .ok (.aload_n 0, 1) := by decide +kernel
theorem dX12_on_114 : decode cX12_on 114 = .ok (.invokevirtual 410, 3) := by decide +kernel
theorem dX12_on_117 : decode cX12_on 117 = .ok (.if_icmp .ge 42, 3) := by decide +kernel
theorem dX12_on_120 : decode cX12_on 120 = .ok (.aload_n 0, 1) := by decide +kernel
theorem dX12_on_121 : decode cX12_on 121 = .ok (.getfield 139, 3) := by decide +kernel
theorem dX12_on_124 : decode cX12_on 124 = .ok (.bipush 9, 2) := by decide +kernel
theorem dX12_on_126 : decode cX12_on 126 = .ok (.iload_n 3, 1) := by decide +kernel
theorem dX12_on_127 : decode cX12_on 127 = .ok (.iadd, 1) := by decide +kernel
theorem dX12_on_128 : decode cX12_on 128 = .ok (.aload_n 0, 1) := by decide +kernel
theorem dX12_on_129 : decode cX12_on 129 = .ok (.iload_n 2, 1) := by decide +kernel
theorem dX12_on_130 : decode cX12_on 130 = .ok (.invokevirtual 715, 3) := by decide +kernel
theorem dX12_on_133 : decode cX12_on 133 = .ok (.iastore, 1) := by decide +kernel
theorem dX12_on_134 : decode cX12_on 134 = .ok (.aload_n 0, 1) := by decide +kernel
theorem dX12_on_135 : decode cX12_on 135 = .ok (.getfield 139, 3) := by decide +kernel
theorem dX12_on_138 : decode cX12_on 138 = .ok (.bipush 15, 2) := by decide +kernel
theorem dX12_on_140 : decode cX12_on 140 = .ok (.iload_n 3, 1) := by decide +kernel
theorem dX12_on_141 : decode cX12_on 141 = .ok (.iadd, 1) := by decide +kernel
theorem dX12_on_142 : decode cX12_on 142 = .ok (.aload_n 0, 1) := by decide +kernel
theorem dX12_on_143 : decode cX12_on 143 = .ok (.iload_n 2, 1) := by decide +kernel
theorem dX12_on_144 : decode cX12_on 144 = .ok (.iconst 2, 1) := by decide +kernel
theorem dX12_on_145 : decode cX12_on 145 = .ok (.iadd, 1) := by decide +kernel
theorem dX12_on_146 : decode cX12_on 146 = .ok (.invokevirtual 715, 3) := by decide +kernel
theorem dX12_on_149 : decode cX12_on 149 = .ok (.iastore, 1) := by decide +kernel
theorem dX12_on_150 : decode cX12_on 150 = .ok (.iinc 2 4, 3) := by decide +kernel
theorem dX12_on_153 : decode cX12_on 153 = .ok (.iinc 3 1, 3) := by decide +kernel
theorem dX12_on_156 : decode cX12_on 156 = .ok (.goto (-44), 3) := by decide +kernel
theorem dX12_on_159 : decode cX12_on 159 = .ok (.iconst 0, 1) := by decide +kernel
theorem dX12_on_160 : decode cX12_on 160 = .ok (.istore_n 3, 1) := by decide +kernel
theorem dX12_on_161 : decode cX12_on 161 = .ok (.iload_n 3, 1) := by decide +kernel
theorem dX12_on_162 : decode cX12_on 162 = .ok (.aload_n 0, 1) := by decide +kernel
theorem dX12_on_163 : decode cX12_on 163 = .ok (.invokevirtual 413, 3) := by decide +kernel
theorem dX12_on_166 : decode cX12_on 166 = .ok (.if_icmp .ge 26, 3) := by decide +kernel
theorem dX12_on_169 : decode cX12_on 169 = .ok (.aload_n 0, 1) := by decide +kernel
theorem dX12_on_170 : decode cX12_on 170 = .ok (.getfield 139, 3) := by decide +kernel
theorem dX12_on_173 : decode cX12_on 173 = .ok (.bipush 21, 2) := by decide +kernel
theorem dX12_on_175 : decode cX12_on 175 = .ok (.iload_n 3, 1) := by decide +kernel
theorem dX12_on_176 : decode cX12_on 176 = .ok (.iadd, 1) := by decide +kernel
theorem dX12_on_177 : decode cX12_on 177 = .ok (.aload_n 0, 1) := by decide +kernel
theorem dX12_on_178 : decode cX12_on 178 = .ok (.getfield 7, 3) := by decide +kernel
theorem dX12_on_181 : decode cX12_on 181 = .ok (.iload_n 2, 1) := by decide +kernel
theorem dX12_on_182 : decode cX12_on 182 = .ok (.iload_n 3, 1) := by decide +kernel
theorem dX12_on_183 : decode cX12_on 183 = .ok (.iadd, 1) := by decide +kernel
theorem dX12_on_184 : decode cX12_on 184 = .ok (.iaload, 1) := by decide +kernel
theorem dX12_on_185 : decode cX12_on 185 = .ok (.iastore, 1) := by decide +kernel
theorem dX12_on_186 : decode cX12_on 186 = .ok (.iinc 3 1, 3) := by decide +kernel
theorem dX12_on_189 : decode cX12_on 189 = .ok (.goto (-28), 3) := by decide +kernel
theorem dX12_on_192 : decode cX12_on 192 = .ok (.aload_n 0, 1) := by decide +kernel
theorem dX12_on_193 : decode cX12_on 193 = .ok (.getfield 139, 3) := by decide +kernel
theorem dX12_on_196 : decode cX12_on 196 = .ok (.bipush 26, 2) := by decide +kernel
theorem dX12_on_198 : decode cX12_on 198 = .ok (.iconst 0, 1) := by decide +kernel
theorem dX12_on_199 : decode cX12_on 199 = .ok (.iastore, 1) := by decide +kernel
theorem dX12_on_200 : decode cX12_on 200 = .ok (.aload_n 0, 1) := by decide +kernel
theorem dX12_on_201 : decode cX12_on 201 = .ok (.iconst 0, 1) := by decide +kernel
theorem dX12_on_202 : decode cX12_on 202 = .ok (.putfield 401, 3) := by decide +kernel
theorem dX12_on_205 : decode cX12_on 205 = .ok (.iconst 1, 1) := by decide +kernel
theorem dX12_on_206 : decode cX12_on 206 = .ok (.ireturn, 1) := by decide +kernel
def f_X12_on_161 : Nat → Int32 → Int32 → Hp → Option (Int32 × Hp)
  | 0, _, _, _ => none
  | k + 1, x2, x3, S => ob2 (f_X12_watcherMany S) (fun r1 S1 => if r1 ≤ x3 then stI S1 55 117 (26 : Int32) (0 : Int32) (fun S2 => le1 (ho_sI S2 0 72 (0 : Int32)) (fun S3 => some ((1 : Int32), S3))) else ldI S1 1 1600 (x2 + x3) (fun v4 => stI S1 55 117 ((21 : Int32) + x3) v4 (fun S5 => le1 (x3 + (1 : Int32)) (fun v6 => f_X12_on_161 k x2 v6 S5))))
set_option maxHeartbeats 4000000 in
set_option maxRecDepth 100000 in
theorem w_X12_on_161 {p : Program} {l : Launch} {e : Env} {s : State} {m : MethodId} {args : Array Value} {below : List Frame} {meth : Method} {c : Code} {E : Ev} {S0 : Hp} {r : (Int32 × Hp)} (C : ho_I p s m args meth c RX12 cX12_on 4 (some .boolean)) :
    ∀ (k : Nat) (x2 : Int32) (x3 : Int32) (S : Hp), f_X12_on_161 k x2 x3 S = some r → ho_G p l e s m args below meth c yM E S0 2 4 (some (.int r.1), r.2) 161 [(0, .ref (E.2.1 0)), (2, .int x2), (3, .int x3)] [] S := by
  intro k
  induction k with
  | zero =>
    intro x2 x3 S h
    exact absurd (show (none : Option (Int32 × Hp)) = some r from h) (by simp)
  | succ k ih =>
    intro x2 x3 S h H locs ls hR hl
    rw [f_X12_on_161] at h
    refine lv_iload_n C.1 C.2.1 dX12_on_161 rfl (lv_at hl 2 rfl) ?_
    refine lv_aload_n C.1 C.2.1 dX12_on_162 rfl (lv_at hl 0 rfl) ?_
    obtain ⟨r1, S1, h1, h⟩ := ob2_ok h
    refine hr_Vi (v := r1) (S' := S1) (As := []) (rest := [.int x3]) C cf12 (c_X12_watcherMany l E _ _ h1) yv_X12_watcherMany lk_RX12_413 rfl aM_0 rfl rfl hl.1 (Nat.le_of_ble_eq_true rfl) (by decide) (by decide) hR (ho_A hR) dX12_on_163 (fun H locs hR => ?_)
    refine lv_icmp_ge (tgt := 192) C.1 C.2.1 dX12_on_166 (by decide) (fun hc => ?_) (fun hc => ?_)
    · replace h := if_t h hc
      refine lv_aload_n C.1 C.2.1 dX12_on_192 rfl (lv_at hl 0 rfl) ?_
      refine ho_getR (a' := 55) C cf12 fM_139 hR aM_0 rfl dX12_on_193 ?_
      refine lv_bipush (v := (26 : Int32)) C.1 C.2.1 dX12_on_196 (by decide) ?_
      refine lv_iconst (v := (0 : Int32)) C.1 C.2.1 dX12_on_198 (by decide) ?_
      obtain ⟨S2, e2, hi2, h⟩ := stI_ok h
      refine hr_ist C hR aM_55 hi2 e2 dX12_on_199 (fun H locs hR => ?_)
      refine lv_aload_n C.1 C.2.1 dX12_on_200 rfl (lv_at hl 0 rfl) ?_
      refine lv_iconst (v := (0 : Int32)) C.1 C.2.1 dX12_on_201 (by decide) ?_
      obtain ⟨S3, e3, h⟩ := le1_ok h
      refine hr_putI C cf12 fM_401 hR aM_0 e3 dX12_on_202 (fun H locs hR => ?_)
      refine lv_iconst (v := (1 : Int32)) C.1 C.2.1 dX12_on_205 (by decide) ?_
      exact ho_zret C hR (Or.inr rfl) h dX12_on_206
    · replace h := if_f h hc
      refine lv_aload_n C.1 C.2.1 dX12_on_169 rfl (lv_at hl 0 rfl) ?_
      refine ho_getR (a' := 55) C cf12 fM_139 hR aM_0 rfl dX12_on_170 ?_
      refine lv_bipush (v := (21 : Int32)) C.1 C.2.1 dX12_on_173 (by decide) ?_
      refine lv_iload_n C.1 C.2.1 dX12_on_175 rfl (lv_at hl 2 rfl) ?_
      refine lv_iadd C.1 C.2.1 dX12_on_176 ?_
      refine lv_aload_n C.1 C.2.1 dX12_on_177 rfl (lv_at hl 0 rfl) ?_
      refine ho_getR (a' := 1) C cf12 fM_7 hR aM_0 rfl dX12_on_178 ?_
      refine lv_iload_n C.1 C.2.1 dX12_on_181 rfl (lv_at hl 1 rfl) ?_
      refine lv_iload_n C.1 C.2.1 dX12_on_182 rfl (lv_at hl 2 rfl) ?_
      refine lv_iadd C.1 C.2.1 dX12_on_183 ?_
      obtain ⟨v4, e4, hi4, h⟩ := ldI_ok h
      refine hr_ild C hR aM_1 hi4 e4 dX12_on_184 ?_
      obtain ⟨S5, e5, hi5, h⟩ := stI_ok h
      refine hr_ist C hR aM_55 hi5 e5 dX12_on_185 (fun H locs hR => ?_)
      obtain ⟨v6, e6, h⟩ := le1_ok h
      refine lv_iinc (v := v6) (lv' := [(3, .int v6), (0, .ref (E.2.1 0)), (2, .int x2)]) C.1 C.2.1 dX12_on_186 hl (k := 2) rfl (by rw [e6]; rfl) (by decide) rfl (fun ls hl => ?_)
      refine lv_goto (tgt := 161) C.1 C.2.1 dX12_on_189 (by decide) ?_
      exact ih x2 v6 S5 h _ _ _ hR (lv_sub hl [1, 2, 0] rfl)
def f_X12_on_112 : Nat → Int32 → Int32 → Hp → Option (Int32 × Hp)
  | 0, _, _, _ => none
  | k + 1, x2, x3, S => ob2 (f_X12_trickMany S) (fun r1 S1 => if r1 ≤ x3 then f_X12_on_161 5000 x2 (0 : Int32) S1 else ob2 (f_X12_twoAt x2 S1) (fun r2 S2 => stI S2 55 117 ((9 : Int32) + x3) r2 (fun S3 => ob2 (f_X12_twoAt (x2 + (2 : Int32)) S3) (fun r4 S4 => stI S4 55 117 ((15 : Int32) + x3) r4 (fun S5 => le1 (x2 + (4 : Int32)) (fun v6 => le1 (x3 + (1 : Int32)) (fun v7 => f_X12_on_112 k v6 v7 S5)))))))
set_option maxHeartbeats 4000000 in
set_option maxRecDepth 100000 in
theorem w_X12_on_112 {p : Program} {l : Launch} {e : Env} {s : State} {m : MethodId} {args : Array Value} {below : List Frame} {meth : Method} {c : Code} {E : Ev} {S0 : Hp} {r : (Int32 × Hp)} (C : ho_I p s m args meth c RX12 cX12_on 4 (some .boolean)) :
    ∀ (k : Nat) (x2 : Int32) (x3 : Int32) (S : Hp), f_X12_on_112 k x2 x3 S = some r → ho_G p l e s m args below meth c yM E S0 2 4 (some (.int r.1), r.2) 112 [(0, .ref (E.2.1 0)), (2, .int x2), (3, .int x3)] [] S := by
  intro k
  induction k with
  | zero =>
    intro x2 x3 S h
    exact absurd (show (none : Option (Int32 × Hp)) = some r from h) (by simp)
  | succ k ih =>
    intro x2 x3 S h H locs ls hR hl
    rw [f_X12_on_112] at h
    refine lv_iload_n C.1 C.2.1 dX12_on_112 rfl (lv_at hl 2 rfl) ?_
    refine lv_aload_n C.1 C.2.1 dX12_on_113 rfl (lv_at hl 0 rfl) ?_
    obtain ⟨r1, S1, h1, h⟩ := ob2_ok h
    refine hr_Vi (v := r1) (S' := S1) (As := []) (rest := [.int x3]) C cf12 (c_X12_trickMany l E _ _ h1) yv_X12_trickMany lk_RX12_410 rfl aM_0 rfl rfl hl.1 (Nat.le_of_ble_eq_true rfl) (by decide) (by decide) hR (ho_A hR) dX12_on_114 (fun H locs hR => ?_)
    refine lv_icmp_ge (tgt := 159) C.1 C.2.1 dX12_on_117 (by decide) (fun hc => ?_) (fun hc => ?_)
    · replace h := if_t h hc
      refine lv_iconst (v := (0 : Int32)) C.1 C.2.1 dX12_on_159 (by decide) ?_
      refine lv_istore_n (lv' := [(3, .int (0 : Int32)), (0, .ref (E.2.1 0)), (2, .int x2)]) C.1 C.2.1 dX12_on_160 rfl hl (by decide) rfl (fun ls hl => ?_)
      exact w_X12_on_161 C 5000 x2 (0 : Int32) S1 h _ _ _ hR (lv_sub hl [1, 2, 0] rfl)
    · replace h := if_f h hc
      refine lv_aload_n C.1 C.2.1 dX12_on_120 rfl (lv_at hl 0 rfl) ?_
      refine ho_getR (a' := 55) C cf12 fM_139 hR aM_0 rfl dX12_on_121 ?_
      refine lv_bipush (v := (9 : Int32)) C.1 C.2.1 dX12_on_124 (by decide) ?_
      refine lv_iload_n C.1 C.2.1 dX12_on_126 rfl (lv_at hl 2 rfl) ?_
      refine lv_iadd C.1 C.2.1 dX12_on_127 ?_
      refine lv_aload_n C.1 C.2.1 dX12_on_128 rfl (lv_at hl 0 rfl) ?_
      refine lv_iload_n C.1 C.2.1 dX12_on_129 rfl (lv_at hl 1 rfl) ?_
      obtain ⟨r2, S2, h2, h⟩ := ob2_ok h
      refine hr_Vi (v := r2) (S' := S2) (As := [.int x2]) (rest := [.int ((9 : Int32) + x3), .ref (E.2.1 55)]) C cf12 (c_X12_twoAt l E x2 _ _ h2) yv_X12_twoAt lk_RX12_715 rfl aM_0 rfl rfl hl.1 (Nat.le_of_ble_eq_true rfl) (by decide) (by decide) hR (ho_A hR) dX12_on_130 (fun H locs hR => ?_)
      obtain ⟨S3, e3, hi3, h⟩ := stI_ok h
      refine hr_ist C hR aM_55 hi3 e3 dX12_on_133 (fun H locs hR => ?_)
      refine lv_aload_n C.1 C.2.1 dX12_on_134 rfl (lv_at hl 0 rfl) ?_
      refine ho_getR (a' := 55) C cf12 fM_139 hR aM_0 rfl dX12_on_135 ?_
      refine lv_bipush (v := (15 : Int32)) C.1 C.2.1 dX12_on_138 (by decide) ?_
      refine lv_iload_n C.1 C.2.1 dX12_on_140 rfl (lv_at hl 2 rfl) ?_
      refine lv_iadd C.1 C.2.1 dX12_on_141 ?_
      refine lv_aload_n C.1 C.2.1 dX12_on_142 rfl (lv_at hl 0 rfl) ?_
      refine lv_iload_n C.1 C.2.1 dX12_on_143 rfl (lv_at hl 1 rfl) ?_
      refine lv_iconst (v := (2 : Int32)) C.1 C.2.1 dX12_on_144 (by decide) ?_
      refine lv_iadd C.1 C.2.1 dX12_on_145 ?_
      obtain ⟨r4, S4, h4, h⟩ := ob2_ok h
      refine hr_Vi (v := r4) (S' := S4) (As := [.int (x2 + (2 : Int32))]) (rest := [.int ((15 : Int32) + x3), .ref (E.2.1 55)]) C cf12 (c_X12_twoAt l E (x2 + (2 : Int32)) _ _ h4) yv_X12_twoAt lk_RX12_715 rfl aM_0 rfl rfl hl.1 (Nat.le_of_ble_eq_true rfl) (by decide) (by decide) hR (ho_A hR) dX12_on_146 (fun H locs hR => ?_)
      obtain ⟨S5, e5, hi5, h⟩ := stI_ok h
      refine hr_ist C hR aM_55 hi5 e5 dX12_on_149 (fun H locs hR => ?_)
      obtain ⟨v6, e6, h⟩ := le1_ok h
      refine lv_iinc (v := v6) (lv' := [(2, .int v6), (0, .ref (E.2.1 0)), (3, .int x3)]) C.1 C.2.1 dX12_on_150 hl (k := 1) rfl (by rw [e6]; rfl) (by decide) rfl (fun ls hl => ?_)
      obtain ⟨v7, e7, h⟩ := le1_ok h
      refine lv_iinc (v := v7) (lv' := [(3, .int v7), (2, .int v6), (0, .ref (E.2.1 0))]) C.1 C.2.1 dX12_on_153 hl (k := 2) rfl (by rw [e7]; rfl) (by decide) rfl (fun ls hl => ?_)
      refine lv_goto (tgt := 112) C.1 C.2.1 dX12_on_156 (by decide) ?_
      exact ih v6 v7 S5 h _ _ _ hR (lv_sub hl [2, 1, 0] rfl)
def f_X12_on_80 : Nat → Int32 → Int32 → Hp → Option (Int32 × Hp)
  | 0, _, _, _ => none
  | k + 1, x2, x3, S => ob2 (f_X12_provinceMany S) (fun r1 S1 => if r1 ≤ x3 then f_X12_on_112 5000 x2 (0 : Int32) S1 else ob2 (f_X12_twoAt x2 S1) (fun r2 S2 => stI S2 55 117 ((3 : Int32) + x3) r2 (fun S3 => le1 (x2 + (2 : Int32)) (fun v4 => le1 (x3 + (1 : Int32)) (fun v5 => f_X12_on_80 k v4 v5 S3)))))
set_option maxHeartbeats 4000000 in
set_option maxRecDepth 100000 in
theorem w_X12_on_80 {p : Program} {l : Launch} {e : Env} {s : State} {m : MethodId} {args : Array Value} {below : List Frame} {meth : Method} {c : Code} {E : Ev} {S0 : Hp} {r : (Int32 × Hp)} (C : ho_I p s m args meth c RX12 cX12_on 4 (some .boolean)) :
    ∀ (k : Nat) (x2 : Int32) (x3 : Int32) (S : Hp), f_X12_on_80 k x2 x3 S = some r → ho_G p l e s m args below meth c yM E S0 2 4 (some (.int r.1), r.2) 80 [(0, .ref (E.2.1 0)), (2, .int x2), (3, .int x3)] [] S := by
  intro k
  induction k with
  | zero =>
    intro x2 x3 S h
    exact absurd (show (none : Option (Int32 × Hp)) = some r from h) (by simp)
  | succ k ih =>
    intro x2 x3 S h H locs ls hR hl
    rw [f_X12_on_80] at h
    refine lv_iload_n C.1 C.2.1 dX12_on_80 rfl (lv_at hl 2 rfl) ?_
    refine lv_aload_n C.1 C.2.1 dX12_on_81 rfl (lv_at hl 0 rfl) ?_
    obtain ⟨r1, S1, h1, h⟩ := ob2_ok h
    refine hr_Vi (v := r1) (S' := S1) (As := []) (rest := [.int x3]) C cf12 (c_X12_provinceMany l E _ _ h1) yv_X12_provinceMany lk_RX12_407 rfl aM_0 rfl rfl hl.1 (Nat.le_of_ble_eq_true rfl) (by decide) (by decide) hR (ho_A hR) dX12_on_82 (fun H locs hR => ?_)
    refine lv_icmp_ge (tgt := 110) C.1 C.2.1 dX12_on_85 (by decide) (fun hc => ?_) (fun hc => ?_)
    · replace h := if_t h hc
      refine lv_iconst (v := (0 : Int32)) C.1 C.2.1 dX12_on_110 (by decide) ?_
      refine lv_istore_n (lv' := [(3, .int (0 : Int32)), (0, .ref (E.2.1 0)), (2, .int x2)]) C.1 C.2.1 dX12_on_111 rfl hl (by decide) rfl (fun ls hl => ?_)
      exact w_X12_on_112 C 5000 x2 (0 : Int32) S1 h _ _ _ hR (lv_sub hl [1, 2, 0] rfl)
    · replace h := if_f h hc
      refine lv_aload_n C.1 C.2.1 dX12_on_88 rfl (lv_at hl 0 rfl) ?_
      refine ho_getR (a' := 55) C cf12 fM_139 hR aM_0 rfl dX12_on_89 ?_
      refine lv_iconst (v := (3 : Int32)) C.1 C.2.1 dX12_on_92 (by decide) ?_
      refine lv_iload_n C.1 C.2.1 dX12_on_93 rfl (lv_at hl 2 rfl) ?_
      refine lv_iadd C.1 C.2.1 dX12_on_94 ?_
      refine lv_aload_n C.1 C.2.1 dX12_on_95 rfl (lv_at hl 0 rfl) ?_
      refine lv_iload_n C.1 C.2.1 dX12_on_96 rfl (lv_at hl 1 rfl) ?_
      obtain ⟨r2, S2, h2, h⟩ := ob2_ok h
      refine hr_Vi (v := r2) (S' := S2) (As := [.int x2]) (rest := [.int ((3 : Int32) + x3), .ref (E.2.1 55)]) C cf12 (c_X12_twoAt l E x2 _ _ h2) yv_X12_twoAt lk_RX12_715 rfl aM_0 rfl rfl hl.1 (Nat.le_of_ble_eq_true rfl) (by decide) (by decide) hR (ho_A hR) dX12_on_97 (fun H locs hR => ?_)
      obtain ⟨S3, e3, hi3, h⟩ := stI_ok h
      refine hr_ist C hR aM_55 hi3 e3 dX12_on_100 (fun H locs hR => ?_)
      obtain ⟨v4, e4, h⟩ := le1_ok h
      refine lv_iinc (v := v4) (lv' := [(2, .int v4), (0, .ref (E.2.1 0)), (3, .int x3)]) C.1 C.2.1 dX12_on_101 hl (k := 1) rfl (by rw [e4]; rfl) (by decide) rfl (fun ls hl => ?_)
      obtain ⟨v5, e5, h⟩ := le1_ok h
      refine lv_iinc (v := v5) (lv' := [(3, .int v5), (2, .int v4), (0, .ref (E.2.1 0))]) C.1 C.2.1 dX12_on_104 hl (k := 2) rfl (by rw [e5]; rfl) (by decide) rfl (fun ls hl => ?_)
      refine lv_goto (tgt := 80) C.1 C.2.1 dX12_on_107 (by decide) ?_
      exact ih v4 v5 S3 h _ _ _ hR (lv_sub hl [2, 1, 0] rfl)
def f_X12_on (S : Hp) : Option (Int32 × Hp) :=
  le1 (S.1 0 1) (fun v1 => le1 (ho_sI S 0 1 (0 : Int32)) (fun S2 => ob2 (f_X12_isImage v1 S2) (fun r3 S3 => if r3 = 0 then ldI S3 10 6 (5 : Int32) (fun v11 => stI S3 10 6 (5 : Int32) (v11 + (1 : Int32)) (fun S12 => some ((0 : Int32), S12))) else ob2 (f_X12_twoAt (0 : Int32) S3) (fun r4 S4 => stI S4 55 117 (0 : Int32) r4 (fun S5 => ldI S5 1 1600 (2 : Int32) (fun v6 => ob2 (f_X12_twoAt (3 : Int32) S5) (fun r7 S7 => stI S7 55 117 (1 : Int32) (((65536 : Int32) * v6) + r7) (fun S8 => ldI S8 1 1600 (5 : Int32) (fun v9 => stI S8 55 117 (2 : Int32) v9 (fun S10 => f_X12_on_80 5000 (6 : Int32) (0 : Int32) S10))))))))))
set_option maxHeartbeats 4000000 in
set_option maxRecDepth 100000 in
theorem c_X12_on (l : Launch) (E : Ev) (S : Hp) (r : (Int32 × Hp)) (h : f_X12_on S = some r) : ho_M l yM E yX12_on cX12_on 4 (some .boolean) 2 [.ref (E.2.1 0)] S (some (.int r.1), r.2) := by
  refine ho_in (by decide) (Nat.le_of_ble_eq_true rfl) ?_
  intro p e s m args below meth c C hR ls hl
  have C : ho_I p s m args meth c RX12 cX12_on 4 (some .boolean) := C
  have hl : lv_has ls 4 [(0, .ref (E.2.1 0))] := hl
  unfold f_X12_on at h
  refine lv_aload_n C.1 C.2.1 dX12_on_0 rfl (lv_at hl 0 rfl) ?_
  refine ho_getI C cf12 fM_261 hR aM_0 dX12_on_1 ?_
  refine lv_topi (fun v1 e1 => ?_)
  replace h := le1_at e1 h
  refine lv_istore_n (lv' := [(1, .int v1), (0, .ref (E.2.1 0))]) C.1 C.2.1 dX12_on_4 rfl hl (by decide) rfl (fun ls hl => ?_)
  refine lv_aload_n C.1 C.2.1 dX12_on_5 rfl (lv_at hl 1 rfl) ?_
  refine lv_iconst (v := (0 : Int32)) C.1 C.2.1 dX12_on_6 (by decide) ?_
  obtain ⟨S2, e2, h⟩ := le1_ok h
  refine hr_putI C cf12 fM_261 hR aM_0 e2 dX12_on_7 (fun H locs hR => ?_)
  refine lv_aload_n C.1 C.2.1 dX12_on_10 rfl (lv_at hl 1 rfl) ?_
  refine lv_iload_n C.1 C.2.1 dX12_on_11 rfl (lv_at hl 0 rfl) ?_
  obtain ⟨r3, S3, h3, h⟩ := ob2_ok h
  refine hr_Vi (v := r3) (S' := S3) (As := [.int v1]) (rest := []) C cf12 (c_X12_isImage l E v1 _ _ h3) yv_X12_isImage lk_RX12_718 rfl aM_0 rfl rfl hl.1 (Nat.le_of_ble_eq_true rfl) (by decide) (by decide) hR (ho_A hR) dX12_on_12 (fun H locs hR => ?_)
  refine lv_if_ne (tgt := 30) C.1 C.2.1 dX12_on_15 (by decide) (fun hc => ?_) (fun hc => ?_)
  · replace h := if_f h hc
    refine lv_aload_n C.1 C.2.1 dX12_on_30 rfl (lv_at hl 1 rfl) ?_
    refine ho_getR (a' := 55) C cf12 fM_139 hR aM_0 rfl dX12_on_31 ?_
    refine lv_iconst (v := (0 : Int32)) C.1 C.2.1 dX12_on_34 (by decide) ?_
    refine lv_aload_n C.1 C.2.1 dX12_on_35 rfl (lv_at hl 1 rfl) ?_
    refine lv_iconst (v := (0 : Int32)) C.1 C.2.1 dX12_on_36 (by decide) ?_
    obtain ⟨r4, S4, h4, h⟩ := ob2_ok h
    refine hr_Vi (v := r4) (S' := S4) (As := [.int (0 : Int32)]) (rest := [.int (0 : Int32), .ref (E.2.1 55)]) C cf12 (c_X12_twoAt l E (0 : Int32) _ _ h4) yv_X12_twoAt lk_RX12_715 rfl aM_0 rfl rfl hl.1 (Nat.le_of_ble_eq_true rfl) (by decide) (by decide) hR (ho_A hR) dX12_on_37 (fun H locs hR => ?_)
    obtain ⟨S5, e5, hi5, h⟩ := stI_ok h
    refine hr_ist C hR aM_55 hi5 e5 dX12_on_40 (fun H locs hR => ?_)
    refine lv_aload_n C.1 C.2.1 dX12_on_41 rfl (lv_at hl 1 rfl) ?_
    refine ho_getR (a' := 55) C cf12 fM_139 hR aM_0 rfl dX12_on_42 ?_
    refine lv_iconst (v := (1 : Int32)) C.1 C.2.1 dX12_on_45 (by decide) ?_
    refine lv_ldcw (v := (65536 : Int32)) C.1 C.2.1 C.2.2.2.2.1 (C.2.2.2.2.2.1 _ kc_RX12_710) dX12_on_46 ?_
    refine lv_aload_n C.1 C.2.1 dX12_on_49 rfl (lv_at hl 1 rfl) ?_
    refine ho_getR (a' := 1) C cf12 fM_7 hR aM_0 rfl dX12_on_50 ?_
    refine lv_iconst (v := (2 : Int32)) C.1 C.2.1 dX12_on_53 (by decide) ?_
    obtain ⟨v6, e6, hi6, h⟩ := ldI_ok h
    refine hr_ild C hR aM_1 hi6 e6 dX12_on_54 ?_
    refine lv_imul C.1 C.2.1 dX12_on_55 ?_
    refine lv_aload_n C.1 C.2.1 dX12_on_56 rfl (lv_at hl 1 rfl) ?_
    refine lv_iconst (v := (3 : Int32)) C.1 C.2.1 dX12_on_57 (by decide) ?_
    obtain ⟨r7, S7, h7, h⟩ := ob2_ok h
    refine hr_Vi (v := r7) (S' := S7) (As := [.int (3 : Int32)]) (rest := [.int ((65536 : Int32) * v6), .int (1 : Int32), .ref (E.2.1 55)]) C cf12 (c_X12_twoAt l E (3 : Int32) _ _ h7) yv_X12_twoAt lk_RX12_715 rfl aM_0 rfl rfl hl.1 (Nat.le_of_ble_eq_true rfl) (by decide) (by decide) hR (ho_A hR) dX12_on_58 (fun H locs hR => ?_)
    refine lv_iadd C.1 C.2.1 dX12_on_61 ?_
    obtain ⟨S8, e8, hi8, h⟩ := stI_ok h
    refine hr_ist C hR aM_55 hi8 e8 dX12_on_62 (fun H locs hR => ?_)
    refine lv_aload_n C.1 C.2.1 dX12_on_63 rfl (lv_at hl 1 rfl) ?_
    refine ho_getR (a' := 55) C cf12 fM_139 hR aM_0 rfl dX12_on_64 ?_
    refine lv_iconst (v := (2 : Int32)) C.1 C.2.1 dX12_on_67 (by decide) ?_
    refine lv_aload_n C.1 C.2.1 dX12_on_68 rfl (lv_at hl 1 rfl) ?_
    refine ho_getR (a' := 1) C cf12 fM_7 hR aM_0 rfl dX12_on_69 ?_
    refine lv_iconst (v := (5 : Int32)) C.1 C.2.1 dX12_on_72 (by decide) ?_
    obtain ⟨v9, e9, hi9, h⟩ := ldI_ok h
    refine hr_ild C hR aM_1 hi9 e9 dX12_on_73 ?_
    obtain ⟨S10, e10, hi10, h⟩ := stI_ok h
    refine hr_ist C hR aM_55 hi10 e10 dX12_on_74 (fun H locs hR => ?_)
    refine lv_bipush (v := (6 : Int32)) C.1 C.2.1 dX12_on_75 (by decide) ?_
    refine lv_istore_n (lv' := [(2, .int (6 : Int32)), (1, .int v1), (0, .ref (E.2.1 0))]) C.1 C.2.1 dX12_on_77 rfl hl (by decide) rfl (fun ls hl => ?_)
    refine lv_iconst (v := (0 : Int32)) C.1 C.2.1 dX12_on_78 (by decide) ?_
    refine lv_istore_n (lv' := [(3, .int (0 : Int32)), (2, .int (6 : Int32)), (1, .int v1), (0, .ref (E.2.1 0))]) C.1 C.2.1 dX12_on_79 rfl hl (by decide) rfl (fun ls hl => ?_)
    exact w_X12_on_80 C 5000 (6 : Int32) (0 : Int32) S10 h _ _ _ hR (lv_sub hl [3, 1, 0] rfl)
  · replace h := if_t h hc
    refine lv_aload_n C.1 C.2.1 dX12_on_18 rfl (lv_at hl 1 rfl) ?_
    refine ho_getR (a' := 10) C cf12 fM_17 hR aM_0 rfl dX12_on_19 ?_
    refine lv_iconst (v := (5 : Int32)) C.1 C.2.1 dX12_on_22 (by decide) ?_
    refine lv_dup2_11 C.1 C.2.1 dX12_on_23 rfl rfl ?_
    obtain ⟨v11, e11, hi11, h⟩ := ldI_ok h
    refine hr_ild C hR aM_10 hi11 e11 dX12_on_24 ?_
    refine lv_iconst (v := (1 : Int32)) C.1 C.2.1 dX12_on_25 (by decide) ?_
    refine lv_iadd C.1 C.2.1 dX12_on_26 ?_
    obtain ⟨S12, e12, hi12, h⟩ := stI_ok h
    refine hr_ist C hR aM_10 hi12 e12 dX12_on_27 (fun H locs hR => ?_)
    refine lv_iconst (v := (0 : Int32)) C.1 C.2.1 dX12_on_28 (by decide) ?_
    exact ho_zret C hR (Or.inl rfl) h dX12_on_29
theorem dX12_status_0 : decode cX12_status 0 = .ok (.iload_n 1, 1) := by decide +kernel
theorem dX12_status_1 : decode cX12_status 1 = .ok (.i2l, 1) := by decide +kernel
theorem dX12_status_2 : decode cX12_status 2 = .ok (.lconst 0, 1) := by decide +kernel
theorem dX12_status_3 : decode cX12_status 3 = .ok (.ldc2_w 528, 3) := by decide +kernel
theorem dX12_status_6 : decode cX12_status 6 = .ok (.invokestatic 304, 3) := by decide +kernel
theorem dX12_status_9 : decode cX12_status 9 = .ok (.ifCond .eq 12, 3) := by decide +kernel
theorem dX12_status_12 : decode cX12_status 12 = .ok (.aload_n 0, 1) := by decide +kernel
theorem dX12_status_13 : decode cX12_status 13 = .ok (.getfield 17, 3) := by decide +kernel
theorem dX12_status_16 : decode cX12_status 16 = .ok (.iload_n 1, 1) := by decide +kernel
theorem dX12_status_17 : decode cX12_status 17 = .ok (.iaload, 1) := by decide +kernel
theorem dX12_status_18 : decode cX12_status 18 = .ok (.goto 4, 3) := by decide +kernel
theorem dX12_status_21 : decode cX12_status 21 = .ok (.iconst (-1), 1) := by decide +kernel
theorem dX12_status_22 : decode cX12_status 22 = .ok (.ireturn, 1) := by decide +kernel
def f_X12_status (x1 : Int32) (S : Hp) : Option (Int32 × Hp) :=
  ob2 (f_X12_isIn (x1.toInt64) (0 : Int64) (5 : Int64) S) (fun r1 S1 => if r1 = 0 then some ((-1 : Int32), S1) else ldI S1 10 6 x1 (fun v2 => some (v2, S1)))
set_option maxHeartbeats 4000000 in
set_option maxRecDepth 100000 in
theorem c_X12_status (l : Launch) (E : Ev) (x1 : Int32) (S : Hp) (r : (Int32 × Hp)) (h : f_X12_status x1 S = some r) : ho_M l yM E yX12_status cX12_status 2 (some .int) 1 [.ref (E.2.1 0), .int x1] S (some (.int r.1), r.2) := by
  refine ho_in (by decide) (Nat.le_of_ble_eq_true rfl) ?_
  intro p e s m args below meth c C hR ls hl
  have C : ho_I p s m args meth c RX12 cX12_status 2 (some .int) := C
  have hl : lv_has ls 2 [(0, .ref (E.2.1 0)), (1, .int x1)] := hl
  unfold f_X12_status at h
  refine lv_iload_n C.1 C.2.1 dX12_status_0 rfl (lv_at hl 1 rfl) ?_
  refine lv_i2l (v := (x1.toInt64)) C.1 C.2.1 dX12_status_1 rfl ?_
  refine lv_lconst (v := (0 : Int64)) C.1 C.2.1 dX12_status_2 (by decide) ?_
  refine lv_ldc2 (v := (5 : Int64)) C.1 C.2.1 C.2.2.2.2.1 (C.2.2.2.2.2.1 _ kc_RX12_528) dX12_status_3 ?_
  obtain ⟨r1, S1, h1, h⟩ := ob2_ok h
  refine hr_Si (v := r1) (S' := S1) (As := [.long (x1.toInt64), .long (0 : Int64), .long (5 : Int64)]) (rest := []) C (c_X12_isIn l E (x1.toInt64) (0 : Int64) (5 : Int64) _ _ h1) ys_X12_isIn lk_RX12_304 rfl rfl hl.1 (Nat.le_of_ble_eq_true rfl) (by decide) (by decide) hR (ho_A hR) dX12_status_6 (fun H locs hR => ?_)
  refine lv_if_eq (tgt := 21) C.1 C.2.1 dX12_status_9 (by decide) (fun hc => ?_) (fun hc => ?_)
  · replace h := if_t h hc
    refine lv_iconst (v := (-1 : Int32)) C.1 C.2.1 dX12_status_21 (by decide) ?_
    exact ho_iret C hR h dX12_status_22
  · replace h := if_f h hc
    refine lv_aload_n C.1 C.2.1 dX12_status_12 rfl (lv_at hl 0 rfl) ?_
    refine ho_getR (a' := 10) C cf12 fM_17 hR aM_0 rfl dX12_status_13 ?_
    refine lv_iload_n C.1 C.2.1 dX12_status_16 rfl (lv_at hl 1 rfl) ?_
    obtain ⟨v2, e2, hi2, h⟩ := ldI_ok h
    refine hr_ild C hR aM_10 hi2 e2 dX12_status_17 ?_
    refine lv_goto (tgt := 22) C.1 C.2.1 dX12_status_18 (by decide) ?_
    exact ho_iret C hR h dX12_status_22
