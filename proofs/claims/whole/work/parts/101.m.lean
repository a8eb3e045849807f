theorem dX12_chestTold_0 : decode cX12_chestTold 0 = .ok (.aload_n 0, 1) := by decide +kernel
theorem dX12_chestTold_1 : decode cX12_chestTold 1 = .ok (.aload_n 0, 1) := by decide +kernel
theorem dX12_chestTold_2 : decode cX12_chestTold 2 = .ok (.getfield 20, 3) := by decide +kernel
theorem dX12_chestTold_5 : decode cX12_chestTold 5 = .ok (.invokevirtual 330, 3) := by decide +kernel
theorem dX12_chestTold_8 : decode cX12_chestTold 8 = .ok (.aload_n 0, 1) := by decide +kernel
theorem dX12_chestTold_9 : decode cX12_chestTold 9 = .ok (.getfield 115, 3) := by decide +kernel
theorem dX12_chestTold_12 : decode cX12_chestTold 12 = .ok (.iconst 0, 1) := by decide +kernel
theorem dX12_chestTold_13 : decode cX12_chestTold 13 = .ok (.aload_n 0, 1) := by decide +kernel
theorem dX12_chestTold_14 : decode cX12_chestTold 14 = .ok (.iconst 0, 1) := by decide +kernel
theorem dX12_chestTold_15 : decode cX12_chestTold 15 = .ok (.sipush 9999, 3) := by decide +kernel
theorem dX12_chestTold_18 : decode cX12_chestTold 18 = .ok (.invokevirtual 334, 3) := by decide +kernel
theorem dX12_chestTold_21 : decode cX12_chestTold 21 = .ok (.iastore, 1) := by decide +kernel
theorem dX12_chestTold_22 : decode cX12_chestTold 22 = .ok (.aload_n 0, 1) := by decide +kernel
theorem dX12_chestTold_23 : decode cX12_chestTold 23 = .ok (.aload_n 0, 1) := by decide +kernel
theorem dX12_chestTold_24 : decode cX12_chestTold 24 = .ok (.getfield 24, 3) := by decide +kernel
theorem dX12_chestTold_27 : decode cX12_chestTold 27 = .ok (.invokevirtual 330, 3) := by decide +kernel
theorem dX12_chestTold_30 : decode cX12_chestTold 30 = .ok (.aload_n 0, 1) := by decide +kernel
theorem dX12_chestTold_31 : decode cX12_chestTold 31 = .ok (.getfield 115, 3) := by decide +kernel
theorem dX12_chestTold_34 : decode cX12_chestTold 34 = .ok (.iconst 1, 1) := by decide +kernel
theorem dX12_chestTold_35 : decode cX12_chestTold 35 = .ok (.aload_n 0, 1) := by decide +kernel
theorem dX12_chestTold_36 : decode cX12_chestTold 36 = .ok (.iconst 0, 1) := by decide +kernel
theorem dX12_chestTold_37 : decode cX12_chestTold 37 = .ok (.sipush 9999, 3) := by decide +kernel
theorem dX12_chestTold_40 : decode cX12_chestTold 40 = .ok (.invokevirtual 334, 3) := by decide +kernel
theorem dX12_chestTold_43 : decode cX12_chestTold 43 = .ok (.iastore, 1) := by decide +kernel
theorem dX12_chestTold_44 : decode cX12_chestTold 44 = .ok (.aload_n 0, 1) := by decide +kernel
theorem dX12_chestTold_45 : decode cX12_chestTold 45 = .ok (.aload_n 0, 1) := by decide +kernel
theorem dX12_chestTold_46 : decode cX12_chestTold 46 = .ok (.getfield 27, 3) := by decide +kernel
theorem dX12_chestTold_49 : decode cX12_chestTold 49 = .ok (.invokevirtual 330, 3) := by decide +kernel
theorem dX12_chestTold_52 : decode cX12_chestTold 52 = .ok (.aload_n 0, 1) := by decide +kernel
theorem dX12_chestTold_53 : decode cX12_chestTold 53 = .ok (.getfield 115, 3) := by decide +kernel
theorem dX12_chestTold_56 : decode cX12_chestTold 56 = .ok (.iconst 2, 1) := by decide +kernel
theorem dX12_chestTold_57 : decode cX12_chestTold 57 = .ok (.aload_n 0, 1) := by decide +kernel
theorem dX12_chestTold_58 : decode cX12_chestTold 58 = .ok (.iconst 0, 1) := by decide +kernel
theorem dX12_chestTold_59 : decode cX12_chestTold 59 = .ok (.bipush 99, 2) := by decide +kernel
theorem dX12_chestTold_61 : decode cX12_chestTold 61 = .ok (.invokevirtual 334, 3) := by decide +kernel
theorem dX12_chestTold_64 : decode cX12_chestTold 64 = .ok (.iastore, 1) := by decide +kernel
theorem dX12_chestTold_65 : decode cX12_chestTold 65 = .ok (.aload_n 0, 1) := by decide +kernel
theorem dX12_chestTold_66 : decode cX12_chestTold 66 = .ok (.bipush 59, 2) := by decide +kernel
theorem dX12_chestTold_68 : decode cX12_chestTold 68 = .ok (.invokevirtual 338, 3) := by decide +kernel
theorem dX12_chestTold_71 : decode cX12_chestTold 71 = .ok (.return_, 1) := by decide +kernel
def f_X12_chestTold (S : Hp) : Option Hp :=
  ob (f_X12_asks 11 4 S) (fun S1 => ob2 (f_X12_number (0 : Int32) (9999 : Int32) S1) (fun r2 S2 => stI S2 43 6 (0 : Int32) r2 (fun S3 => ob (f_X12_asks 12 4 S3) (fun S4 => ob2 (f_X12_number (0 : Int32) (9999 : Int32) S4) (fun r5 S5 => stI S5 43 6 (1 : Int32) r5 (fun S6 => ob (f_X12_asks 13 4 S6) (fun S7 => ob2 (f_X12_number (0 : Int32) (99 : Int32) S7) (fun r8 S8 => stI S8 43 6 (2 : Int32) r8 (fun S9 => ob (f_X12_asksSign (59 : Int32) S9) (fun S10 => some S10))))))))))
set_option maxHeartbeats 4000000 in
set_option maxRecDepth 100000 in
theorem c_X12_chestTold (l : Launch) (E : Ev) (S : Hp) (r : Hp) (h : f_X12_chestTold S = some r) : ho_M l yM E yX12_chestTold cX12_chestTold 1 none 4 [.ref (E.2.1 0)] S (none, r) := by
  refine ho_in (by decide) (Nat.le_of_ble_eq_true rfl) ?_
  intro p e s m args below meth c C hR ls hl
  have C : ho_I p s m args meth c RX12 cX12_chestTold 1 none := C
  have hl : lv_has ls 1 [(0, .ref (E.2.1 0))] := hl
  unfold f_X12_chestTold at h
  refine lv_aload_n C.1 C.2.1 dX12_chestTold_0 rfl (lv_at hl 0 rfl) ?_
  refine lv_aload_n C.1 C.2.1 dX12_chestTold_1 rfl (lv_at hl 0 rfl) ?_
  refine ho_getR (a' := 11) C cf12 fM_20 hR aM_0 rfl dX12_chestTold_2 ?_
  obtain ⟨S1, h1, h⟩ := ob_ok h
  refine hr_Vv (S' := S1) (As := [.ref (E.2.1 11)]) (rest := []) C cf12 (c_X12_asks l E 11 4 aM_11 _ _ h1) yv_X12_asks lk_RX12_330 rfl aM_0 rfl rfl hl.1 (Nat.le_of_ble_eq_true rfl) (by decide) (by decide) hR (ho_A hR) dX12_chestTold_5 (fun H locs hR => ?_)
  refine lv_aload_n C.1 C.2.1 dX12_chestTold_8 rfl (lv_at hl 0 rfl) ?_
  refine ho_getR (a' := 43) C cf12 fM_115 hR aM_0 rfl dX12_chestTold_9 ?_
  refine lv_iconst (v := (0 : Int32)) C.1 C.2.1 dX12_chestTold_12 (by decide) ?_
  refine lv_aload_n C.1 C.2.1 dX12_chestTold_13 rfl (lv_at hl 0 rfl) ?_
  refine lv_iconst (v := (0 : Int32)) C.1 C.2.1 dX12_chestTold_14 (by decide) ?_
  refine lv_sipush (v := (9999 : Int32)) C.1 C.2.1 dX12_chestTold_15 (by decide) ?_
  obtain ⟨r2, S2, h2, h⟩ := ob2_ok h
  refine hr_Vi (v := r2) (S' := S2) (As := [.int (0 : Int32), .int (9999 : Int32)]) (rest := [.int (0 : Int32), .ref (E.2.1 43)]) C cf12 (c_X12_number l E (0 : Int32) (9999 : Int32) _ _ h2) yv_X12_number lk_RX12_334 rfl aM_0 rfl rfl hl.1 (Nat.le_of_ble_eq_true rfl) (by decide) (by decide) hR (ho_A hR) dX12_chestTold_18 (fun H locs hR => ?_)
  obtain ⟨S3, e3, hi3, h⟩ := stI_ok h
  refine hr_ist C hR aM_43 hi3 e3 dX12_chestTold_21 (fun H locs hR => ?_)
  refine lv_aload_n C.1 C.2.1 dX12_chestTold_22 rfl (lv_at hl 0 rfl) ?_
  refine lv_aload_n C.1 C.2.1 dX12_chestTold_23 rfl (lv_at hl 0 rfl) ?_
  refine ho_getR (a' := 12) C cf12 fM_24 hR aM_0 rfl dX12_chestTold_24 ?_
  obtain ⟨S4, h4, h⟩ := ob_ok h
  refine hr_Vv (S' := S4) (As := [.ref (E.2.1 12)]) (rest := []) C cf12 (c_X12_asks l E 12 4 aM_12 _ _ h4) yv_X12_asks lk_RX12_330 rfl aM_0 rfl rfl hl.1 (Nat.le_of_ble_eq_true rfl) (by decide) (by decide) hR (ho_A hR) dX12_chestTold_27 (fun H locs hR => ?_)
  refine lv_aload_n C.1 C.2.1 dX12_chestTold_30 rfl (lv_at hl 0 rfl) ?_
  refine ho_getR (a' := 43) C cf12 fM_115 hR aM_0 rfl dX12_chestTold_31 ?_
  refine lv_iconst (v := (1 : Int32)) C.1 C.2.1 dX12_chestTold_34 (by decide) ?_
  refine lv_aload_n C.1 C.2.1 dX12_chestTold_35 rfl (lv_at hl 0 rfl) ?_
  refine lv_iconst (v := (0 : Int32)) C.1 C.2.1 dX12_chestTold_36 (by decide) ?_
  refine lv_sipush (v := (9999 : Int32)) C.1 C.2.1 dX12_chestTold_37 (by decide) ?_
  obtain ⟨r5, S5, h5, h⟩ := ob2_ok h
  refine hr_Vi (v := r5) (S' := S5) (As := [.int (0 : Int32), .int (9999 : Int32)]) (rest := [.int (1 : Int32), .ref (E.2.1 43)]) C cf12 (c_X12_number l E (0 : Int32) (9999 : Int32) _ _ h5) yv_X12_number lk_RX12_334 rfl aM_0 rfl rfl hl.1 (Nat.le_of_ble_eq_true rfl) (by decide) (by decide) hR (ho_A hR) dX12_chestTold_40 (fun H locs hR => ?_)
  obtain ⟨S6, e6, hi6, h⟩ := stI_ok h
  refine hr_ist C hR aM_43 hi6 e6 dX12_chestTold_43 (fun H locs hR => ?_)
  refine lv_aload_n C.1 C.2.1 dX12_chestTold_44 rfl (lv_at hl 0 rfl) ?_
  refine lv_aload_n C.1 C.2.1 dX12_chestTold_45 rfl (lv_at hl 0 rfl) ?_
  refine ho_getR (a' := 13) C cf12 fM_27 hR aM_0 rfl dX12_chestTold_46 ?_
  obtain ⟨S7, h7, h⟩ := ob_ok h
  refine hr_Vv (S' := S7) (As := [.ref (E.2.1 13)]) (rest := []) C cf12 (c_X12_asks l E 13 4 aM_13 _ _ h7) yv_X12_asks lk_RX12_330 rfl aM_0 rfl rfl hl.1 (Nat.le_of_ble_eq_true rfl) (by decide) (by decide) hR (ho_A hR) dX12_chestTold_49 (fun H locs hR => ?_)
  refine lv_aload_n C.1 C.2.1 dX12_chestTold_52 rfl (lv_at hl 0 rfl) ?_
  refine ho_getR (a' := 43) C cf12 fM_115 hR aM_0 rfl dX12_chestTold_53 ?_
  refine lv_iconst (v := (2 : Int32)) C.1 C.2.1 dX12_chestTold_56 (by decide) ?_
  refine lv_aload_n C.1 C.2.1 dX12_chestTold_57 rfl (lv_at hl 0 rfl) ?_
  refine lv_iconst (v := (0 : Int32)) C.1 C.2.1 dX12_chestTold_58 (by decide) ?_
  refine lv_bipush (v := (99 : Int32)) C.1 C.2.1 dX12_chestTold_59 (by decide) ?_
  obtain ⟨r8, S8, h8, h⟩ := ob2_ok h
  refine hr_Vi (v := r8) (S' := S8) (As := [.int (0 : Int32), .int (99 : Int32)]) (rest := [.int (2 : Int32), .ref (E.2.1 43)]) C cf12 (c_X12_number l E (0 : Int32) (99 : Int32) _ _ h8) yv_X12_number lk_RX12_334 rfl aM_0 rfl rfl hl.1 (Nat.le_of_ble_eq_true rfl) (by decide) (by decide) hR (ho_A hR) dX12_chestTold_61 (fun H locs hR => ?_)
  obtain ⟨S9, e9, hi9, h⟩ := stI_ok h
  refine hr_ist C hR aM_43 hi9 e9 dX12_chestTold_64 (fun H locs hR => ?_)
  refine lv_aload_n C.1 C.2.1 dX12_chestTold_65 rfl (lv_at hl 0 rfl) ?_
  refine lv_bipush (v := (59 : Int32)) C.1 C.2.1 dX12_chestTold_66 (by decide) ?_
  obtain ⟨S10, h10, h⟩ := ob_ok h
  refine hr_Vv (S' := S10) (As := [.int (59 : Int32)]) (rest := []) C cf12 (c_X12_asksSign l E (59 : Int32) _ _ h10) yv_X12_asksSign lk_RX12_338 rfl aM_0 rfl rfl hl.1 (Nat.le_of_ble_eq_true rfl) (by decide) (by decide) hR (ho_A hR) dX12_chestTold_68 (fun H locs hR => ?_)
  exact ho_vret C hR h dX12_chestTold_71
theorem dX12_provinceTold_0 : decode cX12_provinceTold 0 = .ok (.aload_n 0, 1) := by decide +kernel
theorem dX12_provinceTold_1 : decode cX12_provinceTold 1 = .ok (.iconst 0, 1) := by decide +kernel
theorem dX12_provinceTold_2 : decode cX12_provinceTold 2 = .ok (.bipush 6, 2) := by decide +kernel
theorem dX12_provinceTold_4 : decode cX12_provinceTold 4 = .ok (.iload_n 1, 1) := by decide +kernel
theorem dX12_provinceTold_5 : decode cX12_provinceTold 5 = .ok (.invokevirtual 342, 3) := by decide +kernel
theorem dX12_provinceTold_8 : decode cX12_provinceTold 8 = .ok (.ifCond .eq 4, 3) := by decide +kernel
theorem dX12_provinceTold_11 : decode cX12_provinceTold 11 = .ok (.return_, 1) := by decide +kernel
theorem dX12_provinceTold_12 : decode cX12_provinceTold 12 = .ok (.aload_n 0, 1) := by decide +kernel
theorem dX12_provinceTold_13 : decode cX12_provinceTold 13 = .ok (.invokevirtual 346, 3) := by decide +kernel
theorem dX12_provinceTold_16 : decode cX12_provinceTold 16 = .ok (.lstore_n 2, 1) := by decide +kernel
theorem dX12_provinceTold_17 : decode cX12_provinceTold 17 = .ok (.aload_n 0, 1) := by decide +kernel
theorem dX12_provinceTold_18 : decode cX12_provinceTold 18 = .ok (.iconst 0, 1) := by decide +kernel
theorem dX12_provinceTold_19 : decode cX12_provinceTold 19 = .ok (.sipush 9999, 3) := by decide +kernel
theorem dX12_provinceTold_22 : decode cX12_provinceTold 22 = .ok (.invokevirtual 334, 3) := by decide +kernel
theorem dX12_provinceTold_25 : decode cX12_provinceTold 25 = .ok (.istore 4, 2) := by decide +kernel
theorem dX12_provinceTold_27 : decode cX12_provinceTold 27 = .ok (.aload_n 0, 1) := by decide +kernel
theorem dX12_provinceTold_28 : decode cX12_provinceTold 28 = .ok (.aload_n 0, 1) := by decide +kernel
theorem dX12_provinceTold_29 : decode cX12_provinceTold 29 = .ok (.getfield 33, 3) := by decide +kernel
theorem dX12_provinceTold_32 : decode cX12_provinceTold 32 = .ok (.invokevirtual 330, 3) := by decide +kernel
theorem dX12_provinceTold_35 : decode cX12_provinceTold 35 = .ok (.aload_n 0, 1) := by decide +kernel
theorem dX12_provinceTold_36 : decode cX12_provinceTold 36 = .ok (.iconst 0, 1) := by decide +kernel
theorem dX12_provinceTold_37 : decode cX12_provinceTold 37 = .ok (.sipush 999, 3) := by decide +kernel
theorem dX12_provinceTold_40 : decode cX12_provinceTold 40 = .ok (.invokevirtual 334, 3) := by decide +kernel
theorem dX12_provinceTold_43 : decode cX12_provinceTold 43 = .ok (.istore 5, 2) := by decide +kernel
theorem dX12_provinceTold_45 : decode cX12_provinceTold 45 = .ok (.aload_n 0, 1) := by decide +kernel
theorem dX12_provinceTold_46 : decode cX12_provinceTold 46 = .ok (.getfield 264, 3) := by decide +kernel
theorem dX12_provinceTold_49 : decode cX12_provinceTold 49 = .ok (.ifCond .eq 4, 3) := by decide +kernel
theorem dX12_provinceTold_52 : decode cX12_provinceTold 52 = .ok (.return_, 1) := by decide +kernel
theorem dX12_provinceTold_53 : decode cX12_provinceTold 53 = .ok (.iconst 2, 1) := by decide +kernel
theorem dX12_provinceTold_54 : decode cX12_provinceTold 54 = .ok (.aload_n 0, 1) := by decide +kernel
theorem dX12_provinceTold_55 : decode cX12_provinceTold 55 = .ok (.iconst 0, 1) := by decide +kernel
theorem dX12_provinceTold_56 : decode cX12_provinceTold 56 = .ok (.lload_n 2, 1) := by decide +kernel
theorem dX12_provinceTold_57 : decode cX12_provinceTold 57 = .ok (.invokevirtual 349, 3) := by decide +kernel
theorem dX12_provinceTold_60 : decode cX12_provinceTold 60 = .ok (.imul, 1) := by decide +kernel
theorem dX12_provinceTold_61 : decode cX12_provinceTold 61 = .ok (.istore 6, 2) := by decide +kernel
theorem dX12_provinceTold_63 : decode cX12_provinceTold 63 = .ok (.aload_n 0, 1) := by decide +kernel
theorem dX12_provinceTold_64 : decode cX12_provinceTold 64 = .ok (.getfield 118, 3) := by decide +kernel
theorem dX12_provinceTold_67 : decode cX12_provinceTold 67 = .ok (.iload 6, 2) := by decide +kernel
theorem dX12_provinceTold_69 : decode cX12_provinceTold 69 = .ok (.iload 4, 2) := by decide +kernel
theorem dX12_provinceTold_71 : decode cX12_provinceTold 71 = .ok (.iastore, 1) := by decide +kernel
theorem dX12_provinceTold_72 : decode cX12_provinceTold 72 = .ok (.aload_n 0, 1) := by decide +kernel
theorem dX12_provinceTold_73 : decode cX12_provinceTold 73 = .ok (.getfield 118, 3) := by decide +kernel
theorem dX12_provinceTold_76 : decode cX12_provinceTold 76 = .ok (.iload 6, 2) := by decide +kernel
theorem dX12_provinceTold_78 : decode cX12_provinceTold 78 = .ok (.iconst 1, 1) := by decide +kernel
theorem dX12_provinceTold_79 : decode cX12_provinceTold 79 = .ok (.iadd, 1) := by decide +kernel
theorem dX12_provinceTold_80 : decode cX12_provinceTold 80 = .ok (.iload 5, 2) := by decide +kernel
theorem dX12_provinceTold_82 : decode cX12_provinceTold 82 = .ok (.iastore, 1) := by decide +kernel
theorem dX12_provinceTold_83 : decode cX12_provinceTold 83 = .ok (.return_, 1) := by decide +kernel
def f_X12_provinceTold (x1 : Int32) (S : Hp) : Option Hp :=
  ob2 (f_X12_isFull (0 : Int32) (6 : Int32) x1 S) (fun r1 S1 => if r1 = 0 then ob2 (f_X12_newName S1) (fun r2 S2 => ob2 (f_X12_number (0 : Int32) (9999 : Int32) S2) (fun r3 S3 => ob (f_X12_asks 15 6 S3) (fun S4 => ob2 (f_X12_number (0 : Int32) (999 : Int32) S4) (fun r5 S5 => if (S5.1 0 5) = 0 then ob2 (f_X12_adds (0 : Int32) r2 S5) (fun r6 S6 => le1 ((2 : Int32) * r6) (fun v7 => stI S6 44 24 v7 r3 (fun S8 => stI S8 44 24 (v7 + (1 : Int32)) r5 (fun S9 => some S9)))) else some S5)))) else some S1)
set_option maxHeartbeats 4000000 in
set_option maxRecDepth 100000 in
theorem c_X12_provinceTold (l : Launch) (E : Ev) (x1 : Int32) (S : Hp) (r : Hp) (h : f_X12_provinceTold x1 S = some r) : ho_M l yM E yX12_provinceTold cX12_provinceTold 7 none 5 [.ref (E.2.1 0), .int x1] S (none, r) := by
  refine ho_in (by decide) (Nat.le_of_ble_eq_true rfl) ?_
  intro p e s m args below meth c C hR ls hl
  have C : ho_I p s m args meth c RX12 cX12_provinceTold 7 none := C
  have hl : lv_has ls 7 [(0, .ref (E.2.1 0)), (1, .int x1)] := hl
  unfold f_X12_provinceTold at h
  refine lv_aload_n C.1 C.2.1 dX12_provinceTold_0 rfl (lv_at hl 0 rfl) ?_
  refine lv_iconst (v := (0 : Int32)) C.1 C.2.1 dX12_provinceTold_1 (by decide) ?_
  refine lv_bipush (v := (6 : Int32)) C.1 C.2.1 dX12_provinceTold_2 (by decide) ?_
  refine lv_iload_n C.1 C.2.1 dX12_provinceTold_4 rfl (lv_at hl 1 rfl) ?_
  obtain ⟨r1, S1, h1, h⟩ := ob2_ok h
  refine hr_Vi (v := r1) (S' := S1) (As := [.int (0 : Int32), .int (6 : Int32), .int x1]) (rest := []) C cf12 (c_X12_isFull l E (0 : Int32) (6 : Int32) x1 _ _ h1) yv_X12_isFull lk_RX12_342 rfl aM_0 rfl rfl hl.1 (Nat.le_of_ble_eq_true rfl) (by decide) (by decide) hR (ho_A hR) dX12_provinceTold_5 (fun H locs hR => ?_)
  refine lv_if_eq (tgt := 12) C.1 C.2.1 dX12_provinceTold_8 (by decide) (fun hc => ?_) (fun hc => ?_)
  · replace h := if_t h hc
    refine lv_aload_n C.1 C.2.1 dX12_provinceTold_12 rfl (lv_at hl 0 rfl) ?_
    obtain ⟨r2, S2, h2, h⟩ := ob2_ok h
    refine hr_Vl (w := r2) (S' := S2) (As := []) (rest := []) C cf12 (c_X12_newName l E _ _ h2) yv_X12_newName lk_RX12_346 rfl aM_0 rfl rfl hl.1 (Nat.le_of_ble_eq_true rfl) (by decide) (by decide) hR (ho_A hR) dX12_provinceTold_13 (fun H locs hR => ?_)
    refine lv_lstore_n (lv' := [(2, .long r2), (0, .ref (E.2.1 0)), (1, .int x1)]) C.1 C.2.1 dX12_provinceTold_16 rfl hl (by decide) rfl (fun ls hl => ?_)
    refine lv_aload_n C.1 C.2.1 dX12_provinceTold_17 rfl (lv_at hl 1 rfl) ?_
    refine lv_iconst (v := (0 : Int32)) C.1 C.2.1 dX12_provinceTold_18 (by decide) ?_
    refine lv_sipush (v := (9999 : Int32)) C.1 C.2.1 dX12_provinceTold_19 (by decide) ?_
    obtain ⟨r3, S3, h3, h⟩ := ob2_ok h
    refine hr_Vi (v := r3) (S' := S3) (As := [.int (0 : Int32), .int (9999 : Int32)]) (rest := []) C cf12 (c_X12_number l E (0 : Int32) (9999 : Int32) _ _ h3) yv_X12_number lk_RX12_334 rfl aM_0 rfl rfl hl.1 (Nat.le_of_ble_eq_true rfl) (by decide) (by decide) hR (ho_A hR) dX12_provinceTold_22 (fun H locs hR => ?_)
    refine lv_istore (lv' := [(4, .int r3), (2, .long r2), (0, .ref (E.2.1 0)), (1, .int x1)]) C.1 C.2.1 dX12_provinceTold_25 hl (by decide) rfl (fun ls hl => ?_)
    refine lv_aload_n C.1 C.2.1 dX12_provinceTold_27 rfl (lv_at hl 2 rfl) ?_
    refine lv_aload_n C.1 C.2.1 dX12_provinceTold_28 rfl (lv_at hl 2 rfl) ?_
    refine ho_getR (a' := 15) C cf12 fM_33 hR aM_0 rfl dX12_provinceTold_29 ?_
    obtain ⟨S4, h4, h⟩ := ob_ok h
    refine hr_Vv (S' := S4) (As := [.ref (E.2.1 15)]) (rest := []) C cf12 (c_X12_asks l E 15 6 aM_15 _ _ h4) yv_X12_asks lk_RX12_330 rfl aM_0 rfl rfl hl.1 (Nat.le_of_ble_eq_true rfl) (by decide) (by decide) hR (ho_A hR) dX12_provinceTold_32 (fun H locs hR => ?_)
    refine lv_aload_n C.1 C.2.1 dX12_provinceTold_35 rfl (lv_at hl 2 rfl) ?_
    refine lv_iconst (v := (0 : Int32)) C.1 C.2.1 dX12_provinceTold_36 (by decide) ?_
    refine lv_sipush (v := (999 : Int32)) C.1 C.2.1 dX12_provinceTold_37 (by decide) ?_
    obtain ⟨r5, S5, h5, h⟩ := ob2_ok h
    refine hr_Vi (v := r5) (S' := S5) (As := [.int (0 : Int32), .int (999 : Int32)]) (rest := []) C cf12 (c_X12_number l E (0 : Int32) (999 : Int32) _ _ h5) yv_X12_number lk_RX12_334 rfl aM_0 rfl rfl hl.1 (Nat.le_of_ble_eq_true rfl) (by decide) (by decide) hR (ho_A hR) dX12_provinceTold_40 (fun H locs hR => ?_)
    refine lv_istore (lv' := [(5, .int r5), (4, .int r3), (2, .long r2), (0, .ref (E.2.1 0)), (1, .int x1)]) C.1 C.2.1 dX12_provinceTold_43 hl (by decide) rfl (fun ls hl => ?_)
    refine lv_aload_n C.1 C.2.1 dX12_provinceTold_45 rfl (lv_at hl 3 rfl) ?_
    refine ho_getI C cf12 fM_264 hR aM_0 dX12_provinceTold_46 ?_
    refine lv_if_eq (tgt := 53) C.1 C.2.1 dX12_provinceTold_49 (by decide) (fun hc => ?_) (fun hc => ?_)
    · replace h := if_t h hc
      refine lv_iconst (v := (2 : Int32)) C.1 C.2.1 dX12_provinceTold_53 (by decide) ?_
      refine lv_aload_n C.1 C.2.1 dX12_provinceTold_54 rfl (lv_at hl 3 rfl) ?_
      refine lv_iconst (v := (0 : Int32)) C.1 C.2.1 dX12_provinceTold_55 (by decide) ?_
      refine lv_lload_n C.1 C.2.1 dX12_provinceTold_56 rfl (lv_at hl 2 rfl) ?_
      obtain ⟨r6, S6, h6, h⟩ := ob2_ok h
      refine hr_Vi (v := r6) (S' := S6) (As := [.int (0 : Int32), .long r2]) (rest := [.int (2 : Int32)]) C cf12 (c_X12_adds l E (0 : Int32) r2 _ _ h6) yv_X12_adds lk_RX12_349 rfl aM_0 rfl rfl hl.1 (Nat.le_of_ble_eq_true rfl) (by decide) (by decide) hR (ho_A hR) dX12_provinceTold_57 (fun H locs hR => ?_)
      refine lv_imul C.1 C.2.1 dX12_provinceTold_60 ?_
      refine lv_topi (fun v7 e7 => ?_)
      replace h := le1_at e7 h
      refine lv_istore (lv' := [(6, .int v7), (5, .int r5), (4, .int r3), (2, .long r2), (0, .ref (E.2.1 0)), (1, .int x1)]) C.1 C.2.1 dX12_provinceTold_61 hl (by decide) rfl (fun ls hl => ?_)
      refine lv_aload_n C.1 C.2.1 dX12_provinceTold_63 rfl (lv_at hl 4 rfl) ?_
      refine ho_getR (a' := 44) C cf12 fM_118 hR aM_0 rfl dX12_provinceTold_64 ?_
      refine lv_iload C.1 C.2.1 dX12_provinceTold_67 (lv_at hl 0 rfl) ?_
      refine lv_iload C.1 C.2.1 dX12_provinceTold_69 (lv_at hl 2 rfl) ?_
      obtain ⟨S8, e8, hi8, h⟩ := stI_ok h
      refine hr_ist C hR aM_44 hi8 e8 dX12_provinceTold_71 (fun H locs hR => ?_)
      refine lv_aload_n C.1 C.2.1 dX12_provinceTold_72 rfl (lv_at hl 4 rfl) ?_
      refine ho_getR (a' := 44) C cf12 fM_118 hR aM_0 rfl dX12_provinceTold_73 ?_
      refine lv_iload C.1 C.2.1 dX12_provinceTold_76 (lv_at hl 0 rfl) ?_
      refine lv_iconst (v := (1 : Int32)) C.1 C.2.1 dX12_provinceTold_78 (by decide) ?_
      refine lv_iadd C.1 C.2.1 dX12_provinceTold_79 ?_
      refine lv_iload C.1 C.2.1 dX12_provinceTold_80 (lv_at hl 1 rfl) ?_
      obtain ⟨S9, e9, hi9, h⟩ := stI_ok h
      refine hr_ist C hR aM_44 hi9 e9 dX12_provinceTold_82 (fun H locs hR => ?_)
      exact ho_vret C hR h dX12_provinceTold_83
    · replace h := if_f h hc
      exact ho_vret C hR h dX12_provinceTold_52
  · replace h := if_f h hc
    exact ho_vret C hR h dX12_provinceTold_11
theorem dX12_trickTold_0 : decode cX12_trickTold 0 = .ok (.aload_n 0, 1) := by decide +kernel
theorem dX12_trickTold_1 : decode cX12_trickTold 1 = .ok (.iconst 1, 1) := by decide +kernel
theorem dX12_trickTold_2 : decode cX12_trickTold 2 = .ok (.bipush 6, 2) := by decide +kernel
theorem dX12_trickTold_4 : decode cX12_trickTold 4 = .ok (.iload_n 1, 1) := by decide +kernel
theorem dX12_trickTold_5 : decode cX12_trickTold 5 = .ok (.invokevirtual 342, 3) := by decide +kernel
theorem dX12_trickTold_8 : decode cX12_trickTold 8 = .ok (.ifCond .eq 4, 3) := by decide +kernel
theorem dX12_trickTold_11 : decode cX12_trickTold 11 = .ok (.return_, 1) := by decide +kernel
theorem dX12_trickTold_12 : decode cX12_trickTold 12 = .ok (.aload_n 0, 1) := by decide +kernel
theorem dX12_trickTold_13 : decode cX12_trickTold 13 = .ok (.invokevirtual 346, 3) := by decide +kernel
theorem dX12_trickTold_16 : decode cX12_trickTold 16 = .ok (.lstore_n 2, 1) := by decide +kernel
theorem dX12_trickTold_17 : decode cX12_trickTold 17 = .ok (.aload_n 0, 1) := by decide +kernel
theorem dX12_trickTold_18 : decode cX12_trickTold 18 = .ok (.aload_n 0, 1) := by decide +kernel
theorem dX12_trickTold_19 : decode cX12_trickTold 19 = .ok (.getfield 39, 3) := by decide +kernel
theorem dX12_trickTold_22 : decode cX12_trickTold 22 = .ok (.invokevirtual 330, 3) := by decide +kernel
theorem dX12_trickTold_25 : decode cX12_trickTold 25 = .ok (.aload_n 0, 1) := by decide +kernel
theorem dX12_trickTold_26 : decode cX12_trickTold 26 = .ok (.iconst 1, 1) := by decide +kernel
theorem dX12_trickTold_27 : decode cX12_trickTold 27 = .ok (.sipush 999, 3) := by decide +kernel
theorem dX12_trickTold_30 : decode cX12_trickTold 30 = .ok (.invokevirtual 334, 3) := by decide +kernel
theorem dX12_trickTold_33 : decode cX12_trickTold 33 = .ok (.istore 4, 2) := by decide +kernel
theorem dX12_trickTold_35 : decode cX12_trickTold 35 = .ok (.aload_n 0, 1) := by decide +kernel
theorem dX12_trickTold_36 : decode cX12_trickTold 36 = .ok (.aload_n 0, 1) := by decide +kernel
theorem dX12_trickTold_37 : decode cX12_trickTold 37 = .ok (.getfield 42, 3) := by decide +kernel
theorem dX12_trickTold_40 : decode cX12_trickTold 40 = .ok (.invokevirtual 330, 3) := by decide +kernel
theorem dX12_trickTold_43 : decode cX12_trickTold 43 = .ok (.aload_n 0, 1) := by decide +kernel
theorem dX12_trickTold_44 : decode cX12_trickTold 44 = .ok (.invokevirtual 322, 3) := by decide +kernel
theorem dX12_trickTold_47 : decode cX12_trickTold 47 = .ok (.lstore 5, 2) := by decide +kernel
theorem dX12_trickTold_49 : decode cX12_trickTold 49 = .ok (.aload_n 0, 1) := by decide +kernel
theorem dX12_trickTold_50 : decode cX12_trickTold 50 = .ok (.iconst 0, 1) := by decide +kernel
theorem dX12_trickTold_51 : decode cX12_trickTold 51 = .ok (.lload 5, 2) := by decide +kernel
theorem dX12_trickTold_53 : decode cX12_trickTold 53 = .ok (.invokevirtual 326, 3) := by decide +kernel
theorem dX12_trickTold_56 : decode cX12_trickTold 56 = .ok (.istore 7, 2) := by decide +kernel
theorem dX12_trickTold_58 : decode cX12_trickTold 58 = .ok (.aload_n 0, 1) := by decide +kernel
theorem dX12_trickTold_59 : decode cX12_trickTold 59 = .ok (.getfield 264, 3) := by decide +kernel
theorem dX12_trickTold_62 : decode cX12_trickTold 62 = .ok (.ifCond .ne 18, 3) := by decide +kernel
theorem dX12_trickTold_65 : decode cX12_trickTold 65 = .ok (.iload 7, 2) := by decide +kernel
theorem dX12_trickTold_67 : decode cX12_trickTold 67 = .ok (.iconst (-1), 1) := by decide +kernel
theorem dX12_trickTold_68 : decode cX12_trickTold 68 = .ok (.if_icmp .ne 12, 3) := by decide +kernel
theorem dX12_trickTold_71 : decode cX12_trickTold 71 = .ok (.aload_n 0, 1) := by decide +kernel
theorem dX12_trickTold_72 : decode cX12_trickTold 72 = .ok (.iconst 3, 1) := by decide +kernel
theorem dX12_trickTold_73 : decode cX12_trickTold 73 = .ok (.aload_n 0, 1) := by decide +kernel
theorem dX12_trickTold_74 : decode cX12_trickTold 74 = .ok (.getfield 312, 3) := by decide +kernel
theorem dX12_trickTold_77 : decode cX12_trickTold 77 = .ok (.invokevirtual 294, 3) := by decide +kernel
theorem dX12_trickTold_80 : decode cX12_trickTold 80 = .ok (.aload_n 0, 1) := by decide +kernel
theorem dX12_trickTold_81 : decode cX12_trickTold 81 = .ok (.aload_n 0, 1) := by decide +kernel
theorem dX12_trickTold_82 : decode cX12_trickTold 82 = .ok (.getfield 45, 3) := by decide +kernel
theorem dX12_trickTold_85 : decode cX12_trickTold 85 = .ok (.invokevirtual 330, 3) := by decide +kernel
theorem dX12_trickTold_88 : decode cX12_trickTold 88 = .ok (.aload_n 0, 1) := by decide +kernel
theorem dX12_trickTold_89 : decode cX12_trickTold 89 = .ok (.iconst 0, 1) := by decide +kernel
theorem dX12_trickTold_90 : decode cX12_trickTold 90 = .ok (.bipush 9, 2) := by decide +kernel
theorem dX12_trickTold_92 : decode cX12_trickTold 92 = .ok (.invokevirtual 334, 3) := by decide +kernel
theorem dX12_trickTold_95 : decode cX12_trickTold 95 = .ok (.istore 8, 2) := by decide +kernel
theorem dX12_trickTold_97 : decode cX12_trickTold 97 = .ok (.aload_n 0, 1) := by decide +kernel
theorem dX12_trickTold_98 : decode cX12_trickTold 98 = .ok (.getfield 264, 3) := by decide +kernel
theorem dX12_trickTold_101 : decode cX12_trickTold 101 = .ok (.ifCond .eq 4, 3) := by decide +kernel
theorem dX12_trickTold_104 : decode cX12_trickTold 104 = .ok (.return_, 1) := by decide +kernel
theorem dX12_trickTold_105 : decode cX12_trickTold 105 = .ok (.iconst 3, 1) := by decide +kernel
theorem dX12_trickTold_106 : decode cX12_trickTold 106 = .ok (.aload_n 0, 1) := by decide +kernel
theorem dX12_trickTold_107 : decode cX12_trickTold 107 = .ok (.iconst 1, 1) := by decide +kernel
theorem dX12_trickTold_108 : decode cX12_trickTold 108 = .ok (.lload_n 2, 1) := by decide +kernel
theorem dX12_trickTold_109 : decode cX12_trickTold 109 = .ok (.invokevirtual 349, 3) := by decide +kernel
theorem dX12_trickTold_112 : decode cX12_trickTold 112 = .ok (.imul, 1) := by decide +kernel
theorem dX12_trickTold_113 : decode cX12_trickTold 113 = .ok (.istore 9, 2) := by decide +kernel
theorem dX12_trickTold_115 : decode cX12_trickTold 115 = .ok (.aload_n 0, 1) := by decide +kernel
theorem dX12_trickTold_116 : decode cX12_trickTold 116 = .ok (.getfield 121, 3) := by decide +kernel
theorem dX12_trickTold_119 : decode cX12_trickTold 119 = .ok (.iload 9, 2) := by decide +kernel
theorem dX12_trickTold_121 : decode cX12_trickTold 121 = .ok (.iload 4, 2) := by decide +kernel
theorem dX12_trickTold_123 : decode cX12_trickTold 123 = .ok (.iastore, 1) := by decide +kernel
theorem dX12_trickTold_124 : decode cX12_trickTold 124 = .ok (.aload_n 0, 1) := by decide +kernel
theorem dX12_trickTold_125 : decode cX12_trickTold 125 = .ok (.getfield 121, 3) := by decide +kernel
theorem dX12_trickTold_128 : decode cX12_trickTold 128 = .ok (.iload 9, 2) := by decide +kernel
theorem dX12_trickTold_130 : decode cX12_trickTold 130 = .ok (.iconst 1, 1) := by decide +kernel
theorem dX12_trickTold_131 : decode cX12_trickTold 131 = .ok (.iadd, 1) := by decide +kernel
theorem dX12_trickTold_132 : decode cX12_trickTold 132 = .ok (.iload 7, 2) := by decide +kernel
theorem dX12_trickTold_134 : decode cX12_trickTold 134 = .ok (.iastore, 1) := by decide +kernel
theorem dX12_trickTold_135 : decode cX12_trickTold 135 = .ok (.aload_n 0, 1) := by decide +kernel
theorem dX12_trickTold_136 : decode cX12_trickTold 136 = .ok (.getfield 121, 3) := by decide +kernel
theorem dX12_trickTold_139 : decode cX12_trickTold 139 = .ok (.iload 9, 2) := by decide +kernel
theorem dX12_trickTold_141 : decode cX12_trickTold 141 = .ok (.iconst 2, 1) := by decide +kernel
theorem dX12_trickTold_142 : decode cX12_trickTold 142 = .ok (.iadd, 1) := by decide +kernel
theorem dX12_trickTold_143 : decode cX12_trickTold 143 = .ok (.iload 8, 2) := by decide +kernel
theorem dX12_trickTold_145 : decode cX12_trickTold 145 = .ok (.iastore, 1) := by decide +kernel
theorem dX12_trickTold_146 : decode cX12_trickTold 146 = .ok (.return_, 1) := by decide +kernel
def f_X12_trickTold_80 (x2 : Int64) (x4 : Int32) (x7 : Int32) (S : Hp) : Option Hp :=
  ob (f_X12_asks 19 4 S) (fun S1 => ob2 (f_X12_number (0 : Int32) (9 : Int32) S1) (fun r2 S2 => if (S2.1 0 5) = 0 then ob2 (f_X12_adds (1 : Int32) x2 S2) (fun r3 S3 => le1 ((3 : Int32) * r3) (fun v4 => stI S3 45 36 v4 x4 (fun S5 => stI S5 45 36 (v4 + (1 : Int32)) x7 (fun S6 => stI S6 45 36 (v4 + (2 : Int32)) r2 (fun S7 => some S7))))) else some S2))
set_option maxHeartbeats 4000000 in
set_option maxRecDepth 100000 in
theorem w_X12_trickTold_80 {p : Program} {l : Launch} {e : Env} {s : State} {m : MethodId} {args : Array Value} {below : List Frame} {meth : Method} {c : Code} {E : Ev} {S0 : Hp} {r : Hp} (C : ho_I p s m args meth c RX12 cX12_trickTold 10 none) :
    ∀ (x2 : Int64) (x4 : Int32) (x7 : Int32) (S : Hp), f_X12_trickTold_80 x2 x4 x7 S = some r → ho_G p l e s m args below meth c yM E S0 5 10 (none, r) 80 [(0, .ref (E.2.1 0)), (2, .long x2), (4, .int x4), (7, .int x7)] [] S := by
  intro x2 x4 x7 S h H locs ls hR hl
  unfold f_X12_trickTold_80 at h
  refine lv_aload_n C.1 C.2.1 dX12_trickTold_80 rfl (lv_at hl 0 rfl) ?_
  refine lv_aload_n C.1 C.2.1 dX12_trickTold_81 rfl (lv_at hl 0 rfl) ?_
  refine ho_getR (a' := 19) C cf12 fM_45 hR aM_0 rfl dX12_trickTold_82 ?_
  obtain ⟨S1, h1, h⟩ := ob_ok h
  refine hr_Vv (S' := S1) (As := [.ref (E.2.1 19)]) (rest := []) C cf12 (c_X12_asks l E 19 4 aM_19 _ _ h1) yv_X12_asks lk_RX12_330 rfl aM_0 rfl rfl hl.1 (Nat.le_of_ble_eq_true rfl) (by decide) (by decide) hR (ho_A hR) dX12_trickTold_85 (fun H locs hR => ?_)
  refine lv_aload_n C.1 C.2.1 dX12_trickTold_88 rfl (lv_at hl 0 rfl) ?_
  refine lv_iconst (v := (0 : Int32)) C.1 C.2.1 dX12_trickTold_89 (by decide) ?_
  refine lv_bipush (v := (9 : Int32)) C.1 C.2.1 dX12_trickTold_90 (by decide) ?_
  obtain ⟨r2, S2, h2, h⟩ := ob2_ok h
  refine hr_Vi (v := r2) (S' := S2) (As := [.int (0 : Int32), .int (9 : Int32)]) (rest := []) C cf12 (c_X12_number l E (0 : Int32) (9 : Int32) _ _ h2) yv_X12_number lk_RX12_334 rfl aM_0 rfl rfl hl.1 (Nat.le_of_ble_eq_true rfl) (by decide) (by decide) hR (ho_A hR) dX12_trickTold_92 (fun H locs hR => ?_)
  refine lv_istore (lv' := [(8, .int r2), (0, .ref (E.2.1 0)), (2, .long x2), (4, .int x4), (7, .int x7)]) C.1 C.2.1 dX12_trickTold_95 hl (by decide) rfl (fun ls hl => ?_)
  refine lv_aload_n C.1 C.2.1 dX12_trickTold_97 rfl (lv_at hl 1 rfl) ?_
  refine ho_getI C cf12 fM_264 hR aM_0 dX12_trickTold_98 ?_
  refine lv_if_eq (tgt := 105) C.1 C.2.1 dX12_trickTold_101 (by decide) (fun hc => ?_) (fun hc => ?_)
  · replace h := if_t h hc
    refine lv_iconst (v := (3 : Int32)) C.1 C.2.1 dX12_trickTold_105 (by decide) ?_
    refine lv_aload_n C.1 C.2.1 dX12_trickTold_106 rfl (lv_at hl 1 rfl) ?_
    refine lv_iconst (v := (1 : Int32)) C.1 C.2.1 dX12_trickTold_107 (by decide) ?_
    refine lv_lload_n C.1 C.2.1 dX12_trickTold_108 rfl (lv_at hl 2 rfl) ?_
    obtain ⟨r3, S3, h3, h⟩ := ob2_ok h
    refine hr_Vi (v := r3) (S' := S3) (As := [.int (1 : Int32), .long x2]) (rest := [.int (3 : Int32)]) C cf12 (c_X12_adds l E (1 : Int32) x2 _ _ h3) yv_X12_adds lk_RX12_349 rfl aM_0 rfl rfl hl.1 (Nat.le_of_ble_eq_true rfl) (by decide) (by decide) hR (ho_A hR) dX12_trickTold_109 (fun H locs hR => ?_)
    refine lv_imul C.1 C.2.1 dX12_trickTold_112 ?_
    refine lv_topi (fun v4 e4 => ?_)
    replace h := le1_at e4 h
    refine lv_istore (lv' := [(9, .int v4), (8, .int r2), (0, .ref (E.2.1 0)), (2, .long x2), (4, .int x4), (7, .int x7)]) C.1 C.2.1 dX12_trickTold_113 hl (by decide) rfl (fun ls hl => ?_)
    refine lv_aload_n C.1 C.2.1 dX12_trickTold_115 rfl (lv_at hl 2 rfl) ?_
    refine ho_getR (a' := 45) C cf12 fM_121 hR aM_0 rfl dX12_trickTold_116 ?_
    refine lv_iload C.1 C.2.1 dX12_trickTold_119 (lv_at hl 0 rfl) ?_
    refine lv_iload C.1 C.2.1 dX12_trickTold_121 (lv_at hl 4 rfl) ?_
    obtain ⟨S5, e5, hi5, h⟩ := stI_ok h
    refine hr_ist C hR aM_45 hi5 e5 dX12_trickTold_123 (fun H locs hR => ?_)
    refine lv_aload_n C.1 C.2.1 dX12_trickTold_124 rfl (lv_at hl 2 rfl) ?_
    refine ho_getR (a' := 45) C cf12 fM_121 hR aM_0 rfl dX12_trickTold_125 ?_
    refine lv_iload C.1 C.2.1 dX12_trickTold_128 (lv_at hl 0 rfl) ?_
    refine lv_iconst (v := (1 : Int32)) C.1 C.2.1 dX12_trickTold_130 (by decide) ?_
    refine lv_iadd C.1 C.2.1 dX12_trickTold_131 ?_
    refine lv_iload C.1 C.2.1 dX12_trickTold_132 (lv_at hl 5 rfl) ?_
    obtain ⟨S6, e6, hi6, h⟩ := stI_ok h
    refine hr_ist C hR aM_45 hi6 e6 dX12_trickTold_134 (fun H locs hR => ?_)
    refine lv_aload_n C.1 C.2.1 dX12_trickTold_135 rfl (lv_at hl 2 rfl) ?_
    refine ho_getR (a' := 45) C cf12 fM_121 hR aM_0 rfl dX12_trickTold_136 ?_
    refine lv_iload C.1 C.2.1 dX12_trickTold_139 (lv_at hl 0 rfl) ?_
    refine lv_iconst (v := (2 : Int32)) C.1 C.2.1 dX12_trickTold_141 (by decide) ?_
    refine lv_iadd C.1 C.2.1 dX12_trickTold_142 ?_
    refine lv_iload C.1 C.2.1 dX12_trickTold_143 (lv_at hl 1 rfl) ?_
    obtain ⟨S7, e7, hi7, h⟩ := stI_ok h
    refine hr_ist C hR aM_45 hi7 e7 dX12_trickTold_145 (fun H locs hR => ?_)
    exact ho_vret C hR h dX12_trickTold_146
  · replace h := if_f h hc
    exact ho_vret C hR h dX12_trickTold_104
def f_X12_trickTold (x1 : Int32) (S : Hp) : Option Hp :=
  ob2 (f_X12_isFull (1 : Int32) (6 : Int32) x1 S) (fun r1 S1 => if r1 = 0 then ob2 (f_X12_newName S1) (fun r2 S2 => ob (f_X12_asks 17 5 S2) (fun S3 => ob2 (f_X12_number (1 : Int32) (999 : Int32) S3) (fun r4 S4 => ob (f_X12_asks 18 4 S4) (fun S5 => ob2 (f_X12_name S5) (fun r6 S6 => ob2 (f_X12_nameOf (0 : Int32) r6 S6) (fun r7 S7 => if (S7.1 0 5) = 0 then if r7 = (-1 : Int32) then ob (f_X12_fail (3 : Int32) (S7.1 0 39) S7) (fun S8 => f_X12_trickTold_80 r2 r4 r7 S8) else f_X12_trickTold_80 r2 r4 r7 S7 else f_X12_trickTold_80 r2 r4 r7 S7)))))) else some S1)
set_option maxHeartbeats 4000000 in
set_option maxRecDepth 100000 in
theorem c_X12_trickTold (l : Launch) (E : Ev) (x1 : Int32) (S : Hp) (r : Hp) (h : f_X12_trickTold x1 S = some r) : ho_M l yM E yX12_trickTold cX12_trickTold 10 none 5 [.ref (E.2.1 0), .int x1] S (none, r) := by
  refine ho_in (by decide) (Nat.le_of_ble_eq_true rfl) ?_
  intro p e s m args below meth c C hR ls hl
  have C : ho_I p s m args meth c RX12 cX12_trickTold 10 none := C
  have hl : lv_has ls 10 [(0, .ref (E.2.1 0)), (1, .int x1)] := hl
  unfold f_X12_trickTold at h
  refine lv_aload_n C.1 C.2.1 dX12_trickTold_0 rfl (lv_at hl 0 rfl) ?_
  refine lv_iconst (v := (1 : Int32)) C.1 C.2.1 dX12_trickTold_1 (by decide) ?_
  refine lv_bipush (v := (6 : Int32)) C.1 C.2.1 dX12_trickTold_2 (by decide) ?_
  refine lv_iload_n C.1 C.2.1 dX12_trickTold_4 rfl (lv_at hl 1 rfl) ?_
  obtain ⟨r1, S1, h1, h⟩ := ob2_ok h
  refine hr_Vi (v := r1) (S' := S1) (As := [.int (1 : Int32), .int (6 : Int32), .int x1]) (rest := []) C cf12 (c_X12_isFull l E (1 : Int32) (6 : Int32) x1 _ _ h1) yv_X12_isFull lk_RX12_342 rfl aM_0 rfl rfl hl.1 (Nat.le_of_ble_eq_true rfl) (by decide) (by decide) hR (ho_A hR) dX12_trickTold_5 (fun H locs hR => ?_)
  refine lv_if_eq (tgt := 12) C.1 C.2.1 dX12_trickTold_8 (by decide) (fun hc => ?_) (fun hc => ?_)
  · replace h := if_t h hc
    refine lv_aload_n C.1 C.2.1 dX12_trickTold_12 rfl (lv_at hl 0 rfl) ?_
    obtain ⟨r2, S2, h2, h⟩ := ob2_ok h
    refine hr_Vl (w := r2) (S' := S2) (As := []) (rest := []) C cf12 (c_X12_newName l E _ _ h2) yv_X12_newName lk_RX12_346 rfl aM_0 rfl rfl hl.1 (Nat.le_of_ble_eq_true rfl) (by decide) (by decide) hR (ho_A hR) dX12_trickTold_13 (fun H locs hR => ?_)
    refine lv_lstore_n (lv' := [(2, .long r2), (0, .ref (E.2.1 0)), (1, .int x1)]) C.1 C.2.1 dX12_trickTold_16 rfl hl (by decide) rfl (fun ls hl => ?_)
    refine lv_aload_n C.1 C.2.1 dX12_trickTold_17 rfl (lv_at hl 1 rfl) ?_
    refine lv_aload_n C.1 C.2.1 dX12_trickTold_18 rfl (lv_at hl 1 rfl) ?_
    refine ho_getR (a' := 17) C cf12 fM_39 hR aM_0 rfl dX12_trickTold_19 ?_
    obtain ⟨S3, h3, h⟩ := ob_ok h
    refine hr_Vv (S' := S3) (As := [.ref (E.2.1 17)]) (rest := []) C cf12 (c_X12_asks l E 17 5 aM_17 _ _ h3) yv_X12_asks lk_RX12_330 rfl aM_0 rfl rfl hl.1 (Nat.le_of_ble_eq_true rfl) (by decide) (by decide) hR (ho_A hR) dX12_trickTold_22 (fun H locs hR => ?_)
    refine lv_aload_n C.1 C.2.1 dX12_trickTold_25 rfl (lv_at hl 1 rfl) ?_
    refine lv_iconst (v := (1 : Int32)) C.1 C.2.1 dX12_trickTold_26 (by decide) ?_
    refine lv_sipush (v := (999 : Int32)) C.1 C.2.1 dX12_trickTold_27 (by decide) ?_
    obtain ⟨r4, S4, h4, h⟩ := ob2_ok h
    refine hr_Vi (v := r4) (S' := S4) (As := [.int (1 : Int32), .int (999 : Int32)]) (rest := []) C cf12 (c_X12_number l E (1 : Int32) (999 : Int32) _ _ h4) yv_X12_number lk_RX12_334 rfl aM_0 rfl rfl hl.1 (Nat.le_of_ble_eq_true rfl) (by decide) (by decide) hR (ho_A hR) dX12_trickTold_30 (fun H locs hR => ?_)
    refine lv_istore (lv' := [(4, .int r4), (2, .long r2), (0, .ref (E.2.1 0)), (1, .int x1)]) C.1 C.2.1 dX12_trickTold_33 hl (by decide) rfl (fun ls hl => ?_)
    refine lv_aload_n C.1 C.2.1 dX12_trickTold_35 rfl (lv_at hl 2 rfl) ?_
    refine lv_aload_n C.1 C.2.1 dX12_trickTold_36 rfl (lv_at hl 2 rfl) ?_
    refine ho_getR (a' := 18) C cf12 fM_42 hR aM_0 rfl dX12_trickTold_37 ?_
    obtain ⟨S5, h5, h⟩ := ob_ok h
    refine hr_Vv (S' := S5) (As := [.ref (E.2.1 18)]) (rest := []) C cf12 (c_X12_asks l E 18 4 aM_18 _ _ h5) yv_X12_asks lk_RX12_330 rfl aM_0 rfl rfl hl.1 (Nat.le_of_ble_eq_true rfl) (by decide) (by decide) hR (ho_A hR) dX12_trickTold_40 (fun H locs hR => ?_)
    refine lv_aload_n C.1 C.2.1 dX12_trickTold_43 rfl (lv_at hl 2 rfl) ?_
    obtain ⟨r6, S6, h6, h⟩ := ob2_ok h
    refine hr_Vl (w := r6) (S' := S6) (As := []) (rest := []) C cf12 (c_X12_name l E _ _ h6) yv_X12_name lk_RX12_322 rfl aM_0 rfl rfl hl.1 (Nat.le_of_ble_eq_true rfl) (by decide) (by decide) hR (ho_A hR) dX12_trickTold_44 (fun H locs hR => ?_)
    refine lv_lstore (lv' := [(5, .long r6), (4, .int r4), (2, .long r2), (0, .ref (E.2.1 0)), (1, .int x1)]) C.1 C.2.1 dX12_trickTold_47 hl (by decide) rfl (fun ls hl => ?_)
    refine lv_aload_n C.1 C.2.1 dX12_trickTold_49 rfl (lv_at hl 3 rfl) ?_
    refine lv_iconst (v := (0 : Int32)) C.1 C.2.1 dX12_trickTold_50 (by decide) ?_
    refine lv_lload C.1 C.2.1 dX12_trickTold_51 (lv_at hl 0 rfl) ?_
    obtain ⟨r7, S7, h7, h⟩ := ob2_ok h
    refine hr_Vi (v := r7) (S' := S7) (As := [.int (0 : Int32), .long r6]) (rest := []) C cf12 (c_X12_nameOf l E (0 : Int32) r6 _ _ h7) yv_X12_nameOf lk_RX12_326 rfl aM_0 rfl rfl hl.1 (Nat.le_of_ble_eq_true rfl) (by decide) (by decide) hR (ho_A hR) dX12_trickTold_53 (fun H locs hR => ?_)
    refine lv_istore (lv' := [(7, .int r7), (5, .long r6), (4, .int r4), (2, .long r2), (0, .ref (E.2.1 0)), (1, .int x1)]) C.1 C.2.1 dX12_trickTold_56 hl (by decide) rfl (fun ls hl => ?_)
    refine lv_aload_n C.1 C.2.1 dX12_trickTold_58 rfl (lv_at hl 4 rfl) ?_
    refine ho_getI C cf12 fM_264 hR aM_0 dX12_trickTold_59 ?_
    refine lv_if_ne (tgt := 80) C.1 C.2.1 dX12_trickTold_62 (by decide) (fun hc => ?_) (fun hc => ?_)
    · replace h := if_f h hc
      exact w_X12_trickTold_80 C r2 r4 r7 S7 h _ _ _ hR (lv_sub hl [4, 3, 2, 0] rfl)
    · replace h := if_t h hc
      refine lv_iload C.1 C.2.1 dX12_trickTold_65 (lv_at hl 0 rfl) ?_
      refine lv_iconst (v := (-1 : Int32)) C.1 C.2.1 dX12_trickTold_67 (by decide) ?_
      refine lv_icmp_ne (tgt := 80) C.1 C.2.1 dX12_trickTold_68 (by decide) (fun hc => ?_) (fun hc => ?_)
      · replace h := if_f h hc
        exact w_X12_trickTold_80 C r2 r4 r7 S7 h _ _ _ hR (lv_sub hl [4, 3, 2, 0] rfl)
      · replace h := if_t h hc
        refine lv_aload_n C.1 C.2.1 dX12_trickTold_71 rfl (lv_at hl 4 rfl) ?_
        refine lv_iconst (v := (3 : Int32)) C.1 C.2.1 dX12_trickTold_72 (by decide) ?_
        refine lv_aload_n C.1 C.2.1 dX12_trickTold_73 rfl (lv_at hl 4 rfl) ?_
        refine ho_getI C cf12 fM_312 hR aM_0 dX12_trickTold_74 ?_
        obtain ⟨S8, h8, h⟩ := ob_ok h
        refine hr_Vv (S' := S8) (As := [.int (3 : Int32), .int (S7.1 0 39)]) (rest := []) C cf12 (c_X12_fail l E (3 : Int32) (S7.1 0 39) _ _ h8) yv_X12_fail lk_RX12_294 rfl aM_0 rfl rfl hl.1 (Nat.le_of_ble_eq_true rfl) (by decide) (by decide) hR (ho_A hR) dX12_trickTold_77 (fun H locs hR => ?_)
        exact w_X12_trickTold_80 C r2 r4 r7 S8 h _ _ _ hR (lv_sub hl [4, 3, 2, 0] rfl)
  · replace h := if_f h hc
    exact ho_vret C hR h dX12_trickTold_11
theorem dX12_watcherTold_0 : decode cX12_watcherTold 0 = .ok (.aload_n 0, 1) := by decide +kernel
theorem dX12_watcherTold_1 : decode cX12_watcherTold 1 = .ok (.iconst 2, 1) := by decide +kernel
theorem dX12_watcherTold_2 : decode cX12_watcherTold 2 = .ok (.iconst 5, 1) := by decide +kernel
theorem dX12_watcherTold_3 : decode cX12_watcherTold 3 = .ok (.iload_n 1, 1) := by decide +kernel
theorem dX12_watcherTold_4 : decode cX12_watcherTold 4 = .ok (.invokevirtual 342, 3) := by decide +kernel
theorem dX12_watcherTold_7 : decode cX12_watcherTold 7 = .ok (.ifCond .eq 4, 3) := by decide +kernel
theorem dX12_watcherTold_10 : decode cX12_watcherTold 10 = .ok (.return_, 1) := by decide +kernel
theorem dX12_watcherTold_11 : decode cX12_watcherTold 11 = .ok (.aload_n 0, 1) := by decide +kernel
theorem dX12_watcherTold_12 : decode cX12_watcherTold 12 = .ok (.invokevirtual 346, 3) := by decide +kernel
theorem dX12_watcherTold_15 : decode cX12_watcherTold 15 = .ok (.lstore_n 2, 1) := by decide +kernel
theorem dX12_watcherTold_16 : decode cX12_watcherTold 16 = .ok (.aload_n 0, 1) := by decide +kernel
theorem dX12_watcherTold_17 : decode cX12_watcherTold 17 = .ok (.aload_n 0, 1) := by decide +kernel
theorem dX12_watcherTold_18 : decode cX12_watcherTold 18 = .ok (.getfield 51, 3) := by decide +kernel
theorem dX12_watcherTold_21 : decode cX12_watcherTold 21 = .ok (.invokevirtual 330, 3) := by decide +kernel
theorem dX12_watcherTold_24 : decode cX12_watcherTold 24 = .ok (.aload_n 0, 1) := by decide +kernel
theorem dX12_watcherTold_25 : decode cX12_watcherTold 25 = .ok (.iconst 0, 1) := by decide +kernel
theorem dX12_watcherTold_26 : decode cX12_watcherTold 26 = .ok (.bipush 9, 2) := by decide +kernel
theorem dX12_watcherTold_28 : decode cX12_watcherTold 28 = .ok (.invokevirtual 334, 3) := by decide +kernel
theorem dX12_watcherTold_31 : decode cX12_watcherTold 31 = .ok (.istore 4, 2) := by decide +kernel
theorem dX12_watcherTold_33 : decode cX12_watcherTold 33 = .ok (.aload_n 0, 1) := by decide +kernel
theorem dX12_watcherTold_34 : decode cX12_watcherTold 34 = .ok (.aload_n 0, 1) := by decide +kernel
theorem dX12_watcherTold_35 : decode cX12_watcherTold 35 = .ok (.getfield 54, 3) := by decide +kernel
theorem dX12_watcherTold_38 : decode cX12_watcherTold 38 = .ok (.invokevirtual 330, 3) := by decide +kernel
theorem dX12_watcherTold_41 : decode cX12_watcherTold 41 = .ok (.aload_n 0, 1) := by decide +kernel
theorem dX12_watcherTold_42 : decode cX12_watcherTold 42 = .ok (.iconst 0, 1) := by decide +kernel
theorem dX12_watcherTold_43 : decode cX12_watcherTold 43 = .ok (.bipush 9, 2) := by decide +kernel
theorem dX12_watcherTold_45 : decode cX12_watcherTold 45 = .ok (.invokevirtual 334, 3) := by decide +kernel
theorem dX12_watcherTold_48 : decode cX12_watcherTold 48 = .ok (.istore 5, 2) := by decide +kernel
theorem dX12_watcherTold_50 : decode cX12_watcherTold 50 = .ok (.aload_n 0, 1) := by decide +kernel
theorem dX12_watcherTold_51 : decode cX12_watcherTold 51 = .ok (.getfield 264, 3) := by decide +kernel
theorem dX12_watcherTold_54 : decode cX12_watcherTold 54 = .ok (.ifCond .eq 4, 3) := by decide +kernel
theorem dX12_watcherTold_57 : decode cX12_watcherTold 57 = .ok (.return_, 1) := by decide +kernel
theorem dX12_watcherTold_58 : decode cX12_watcherTold 58 = .ok (.iconst 2, 1) := by decide +kernel
theorem dX12_watcherTold_59 : decode cX12_watcherTold 59 = .ok (.aload_n 0, 1) := by decide +kernel
theorem dX12_watcherTold_60 : decode cX12_watcherTold 60 = .ok (.iconst 2, 1) := by decide +kernel
theorem dX12_watcherTold_61 : decode cX12_watcherTold 61 = .ok (.lload_n 2, 1) := by decide +kernel
theorem dX12_watcherTold_62 : decode cX12_watcherTold 62 = .ok (.invokevirtual 349, 3) := by decide +kernel
theorem dX12_watcherTold_65 : decode cX12_watcherTold 65 = .ok (.imul, 1) := by decide +kernel
theorem dX12_watcherTold_66 : decode cX12_watcherTold 66 = .ok (.istore 6, 2) := by decide +kernel
theorem dX12_watcherTold_68 : decode cX12_watcherTold 68 = .ok (.aload_n 0, 1) := by decide +kernel
theorem dX12_watcherTold_69 : decode cX12_watcherTold 69 = .ok (.getfield 124, 3) := by decide +kernel
theorem dX12_watcherTold_72 : decode cX12_watcherTold 72 = .ok (.iload 6, 2) := by decide +kernel
theorem dX12_watcherTold_74 : decode cX12_watcherTold 74 = .ok (.iload 4, 2) := by decide +kernel
theorem dX12_watcherTold_76 : decode cX12_watcherTold 76 = .ok (.iastore, 1) := by decide +kernel
theorem dX12_watcherTold_77 : decode cX12_watcherTold 77 = .ok (.aload_n 0, 1) := by decide +kernel
theorem dX12_watcherTold_78 : decode cX12_watcherTold 78 = .ok (.getfield 124, 3) := by decide +kernel
theorem dX12_watcherTold_81 : decode cX12_watcherTold 81 = .ok (.iload 6, 2) := by decide +kernel
theorem dX12_watcherTold_83 : decode cX12_watcherTold 83 = .ok (.iconst 1, 1) := by decide +kernel
theorem dX12_watcherTold_84 : decode cX12_watcherTold 84 = .ok (.iadd, 1) := by decide +kernel
theorem dX12_watcherTold_85 : decode cX12_watcherTold 85 = .ok (.iload 5, 2) := by decide +kernel
theorem dX12_watcherTold_87 : decode cX12_watcherTold 87 = .ok (.iastore, 1) := by decide +kernel
theorem dX12_watcherTold_88 : decode cX12_watcherTold 88 = .ok (.return_, 1) := by decide +kernel
def f_X12_watcherTold (x1 : Int32) (S : Hp) : Option Hp :=
  ob2 (f_X12_isFull (2 : Int32) (5 : Int32) x1 S) (fun r1 S1 => if r1 = 0 then ob2 (f_X12_newName S1) (fun r2 S2 => ob (f_X12_asks 21 4 S2) (fun S3 => ob2 (f_X12_number (0 : Int32) (9 : Int32) S3) (fun r4 S4 => ob (f_X12_asks 22 5 S4) (fun S5 => ob2 (f_X12_number (0 : Int32) (9 : Int32) S5) (fun r6 S6 => if (S6.1 0 5) = 0 then ob2 (f_X12_adds (2 : Int32) r2 S6) (fun r7 S7 => le1 ((2 : Int32) * r7) (fun v8 => stI S7 46 20 v8 r4 (fun S9 => stI S9 46 20 (v8 + (1 : Int32)) r6 (fun S10 => some S10)))) else some S6))))) else some S1)
set_option maxHeartbeats 4000000 in
set_option maxRecDepth 100000 in
theorem c_X12_watcherTold (l : Launch) (E : Ev) (x1 : Int32) (S : Hp) (r : Hp) (h : f_X12_watcherTold x1 S = some r) : ho_M l yM E yX12_watcherTold cX12_watcherTold 7 none 5 [.ref (E.2.1 0), .int x1] S (none, r) := by
  refine ho_in (by decide) (Nat.le_of_ble_eq_true rfl) ?_
  intro p e s m args below meth c C hR ls hl
  have C : ho_I p s m args meth c RX12 cX12_watcherTold 7 none := C
  have hl : lv_has ls 7 [(0, .ref (E.2.1 0)), (1, .int x1)] := hl
  unfold f_X12_watcherTold at h
  refine lv_aload_n C.1 C.2.1 dX12_watcherTold_0 rfl (lv_at hl 0 rfl) ?_
  refine lv_iconst (v := (2 : Int32)) C.1 C.2.1 dX12_watcherTold_1 (by decide) ?_
  refine lv_iconst (v := (5 : Int32)) C.1 C.2.1 dX12_watcherTold_2 (by decide) ?_
  refine lv_iload_n C.1 C.2.1 dX12_watcherTold_3 rfl (lv_at hl 1 rfl) ?_
  obtain ⟨r1, S1, h1, h⟩ := ob2_ok h
  refine hr_Vi (v := r1) (S' := S1) (As := [.int (2 : Int32), .int (5 : Int32), .int x1]) (rest := []) C cf12 (c_X12_isFull l E (2 : Int32) (5 : Int32) x1 _ _ h1) yv_X12_isFull lk_RX12_342 rfl aM_0 rfl rfl hl.1 (Nat.le_of_ble_eq_true rfl) (by decide) (by decide) hR (ho_A hR) dX12_watcherTold_4 (fun H locs hR => ?_)
  refine lv_if_eq (tgt := 11) C.1 C.2.1 dX12_watcherTold_7 (by decide) (fun hc => ?_) (fun hc => ?_)
  · replace h := if_t h hc
    refine lv_aload_n C.1 C.2.1 dX12_watcherTold_11 rfl (lv_at hl 0 rfl) ?_
    obtain ⟨r2, S2, h2, h⟩ := ob2_ok h
    refine hr_Vl (w := r2) (S' := S2) (As := []) (rest := []) C cf12 (c_X12_newName l E _ _ h2) yv_X12_newName lk_RX12_346 rfl aM_0 rfl rfl hl.1 (Nat.le_of_ble_eq_true rfl) (by decide) (by decide) hR (ho_A hR) dX12_watcherTold_12 (fun H locs hR => ?_)
    refine lv_lstore_n (lv' := [(2, .long r2), (0, .ref (E.2.1 0)), (1, .int x1)]) C.1 C.2.1 dX12_watcherTold_15 rfl hl (by decide) rfl (fun ls hl => ?_)
    refine lv_aload_n C.1 C.2.1 dX12_watcherTold_16 rfl (lv_at hl 1 rfl) ?_
    refine lv_aload_n C.1 C.2.1 dX12_watcherTold_17 rfl (lv_at hl 1 rfl) ?_
    refine ho_getR (a' := 21) C cf12 fM_51 hR aM_0 rfl dX12_watcherTold_18 ?_
    obtain ⟨S3, h3, h⟩ := ob_ok h
    refine hr_Vv (S' := S3) (As := [.ref (E.2.1 21)]) (rest := []) C cf12 (c_X12_asks l E 21 4 aM_21 _ _ h3) yv_X12_asks lk_RX12_330 rfl aM_0 rfl rfl hl.1 (Nat.le_of_ble_eq_true rfl) (by decide) (by decide) hR (ho_A hR) dX12_watcherTold_21 (fun H locs hR => ?_)
    refine lv_aload_n C.1 C.2.1 dX12_watcherTold_24 rfl (lv_at hl 1 rfl) ?_
    refine lv_iconst (v := (0 : Int32)) C.1 C.2.1 dX12_watcherTold_25 (by decide) ?_
    refine lv_bipush (v := (9 : Int32)) C.1 C.2.1 dX12_watcherTold_26 (by decide) ?_
    obtain ⟨r4, S4, h4, h⟩ := ob2_ok h
    refine hr_Vi (v := r4) (S' := S4) (As := [.int (0 : Int32), .int (9 : Int32)]) (rest := []) C cf12 (c_X12_number l E (0 : Int32) (9 : Int32) _ _ h4) yv_X12_number lk_RX12_334 rfl aM_0 rfl rfl hl.1 (Nat.le_of_ble_eq_true rfl) (by decide) (by decide) hR (ho_A hR) dX12_watcherTold_28 (fun H locs hR => ?_)
    refine lv_istore (lv' := [(4, .int r4), (2, .long r2), (0, .ref (E.2.1 0)), (1, .int x1)]) C.1 C.2.1 dX12_watcherTold_31 hl (by decide) rfl (fun ls hl => ?_)
    refine lv_aload_n C.1 C.2.1 dX12_watcherTold_33 rfl (lv_at hl 2 rfl) ?_
    refine lv_aload_n C.1 C.2.1 dX12_watcherTold_34 rfl (lv_at hl 2 rfl) ?_
    refine ho_getR (a' := 22) C cf12 fM_54 hR aM_0 rfl dX12_watcherTold_35 ?_
    obtain ⟨S5, h5, h⟩ := ob_ok h
    refine hr_Vv (S' := S5) (As := [.ref (E.2.1 22)]) (rest := []) C cf12 (c_X12_asks l E 22 5 aM_22 _ _ h5) yv_X12_asks lk_RX12_330 rfl aM_0 rfl rfl hl.1 (Nat.le_of_ble_eq_true rfl) (by decide) (by decide) hR (ho_A hR) dX12_watcherTold_38 (fun H locs hR => ?_)
    refine lv_aload_n C.1 C.2.1 dX12_watcherTold_41 rfl (lv_at hl 2 rfl) ?_
    refine lv_iconst (v := (0 : Int32)) C.1 C.2.1 dX12_watcherTold_42 (by decide) ?_
    refine lv_bipush (v := (9 : Int32)) C.1 C.2.1 dX12_watcherTold_43 (by decide) ?_
    obtain ⟨r6, S6, h6, h⟩ := ob2_ok h
    refine hr_Vi (v := r6) (S' := S6) (As := [.int (0 : Int32), .int (9 : Int32)]) (rest := []) C cf12 (c_X12_number l E (0 : Int32) (9 : Int32) _ _ h6) yv_X12_number lk_RX12_334 rfl aM_0 rfl rfl hl.1 (Nat.le_of_ble_eq_true rfl) (by decide) (by decide) hR (ho_A hR) dX12_watcherTold_45 (fun H locs hR => ?_)
    refine lv_istore (lv' := [(5, .int r6), (4, .int r4), (2, .long r2), (0, .ref (E.2.1 0)), (1, .int x1)]) C.1 C.2.1 dX12_watcherTold_48 hl (by decide) rfl (fun ls hl => ?_)
    refine lv_aload_n C.1 C.2.1 dX12_watcherTold_50 rfl (lv_at hl 3 rfl) ?_
    refine ho_getI C cf12 fM_264 hR aM_0 dX12_watcherTold_51 ?_
    refine lv_if_eq (tgt := 58) C.1 C.2.1 dX12_watcherTold_54 (by decide) (fun hc => ?_) (fun hc => ?_)
    · replace h := if_t h hc
      refine lv_iconst (v := (2 : Int32)) C.1 C.2.1 dX12_watcherTold_58 (by decide) ?_
      refine lv_aload_n C.1 C.2.1 dX12_watcherTold_59 rfl (lv_at hl 3 rfl) ?_
      refine lv_iconst (v := (2 : Int32)) C.1 C.2.1 dX12_watcherTold_60 (by decide) ?_
      refine lv_lload_n C.1 C.2.1 dX12_watcherTold_61 rfl (lv_at hl 2 rfl) ?_
      obtain ⟨r7, S7, h7, h⟩ := ob2_ok h
      refine hr_Vi (v := r7) (S' := S7) (As := [.int (2 : Int32), .long r2]) (rest := [.int (2 : Int32)]) C cf12 (c_X12_adds l E (2 : Int32) r2 _ _ h7) yv_X12_adds lk_RX12_349 rfl aM_0 rfl rfl hl.1 (Nat.le_of_ble_eq_true rfl) (by decide) (by decide) hR (ho_A hR) dX12_watcherTold_62 (fun H locs hR => ?_)
      refine lv_imul C.1 C.2.1 dX12_watcherTold_65 ?_
      refine lv_topi (fun v8 e8 => ?_)
      replace h := le1_at e8 h
      refine lv_istore (lv' := [(6, .int v8), (5, .int r6), (4, .int r4), (2, .long r2), (0, .ref (E.2.1 0)), (1, .int x1)]) C.1 C.2.1 dX12_watcherTold_66 hl (by decide) rfl (fun ls hl => ?_)
      refine lv_aload_n C.1 C.2.1 dX12_watcherTold_68 rfl (lv_at hl 4 rfl) ?_
      refine ho_getR (a' := 46) C cf12 fM_124 hR aM_0 rfl dX12_watcherTold_69 ?_
      refine lv_iload C.1 C.2.1 dX12_watcherTold_72 (lv_at hl 0 rfl) ?_
      refine lv_iload C.1 C.2.1 dX12_watcherTold_74 (lv_at hl 2 rfl) ?_
      obtain ⟨S9, e9, hi9, h⟩ := stI_ok h
      refine hr_ist C hR aM_46 hi9 e9 dX12_watcherTold_76 (fun H locs hR => ?_)
      refine lv_aload_n C.1 C.2.1 dX12_watcherTold_77 rfl (lv_at hl 4 rfl) ?_
      refine ho_getR (a' := 46) C cf12 fM_124 hR aM_0 rfl dX12_watcherTold_78 ?_
      refine lv_iload C.1 C.2.1 dX12_watcherTold_81 (lv_at hl 0 rfl) ?_
      refine lv_iconst (v := (1 : Int32)) C.1 C.2.1 dX12_watcherTold_83 (by decide) ?_
      refine lv_iadd C.1 C.2.1 dX12_watcherTold_84 ?_
      refine lv_iload C.1 C.2.1 dX12_watcherTold_85 (lv_at hl 1 rfl) ?_
      obtain ⟨S10, e10, hi10, h⟩ := stI_ok h
      refine hr_ist C hR aM_46 hi10 e10 dX12_watcherTold_87 (fun H locs hR => ?_)
      exact ho_vret C hR h dX12_watcherTold_88
    · replace h := if_f h hc
      exact ho_vret C hR h dX12_watcherTold_57
  · replace h := if_f h hc
    exact ho_vret C hR h dX12_watcherTold_10
theorem dX12_qWordHere_0 : decode cX12_qWordHere 0 = .ok (.aload_n 0, 1) := by decide +kernel
theorem dX12_qWordHere_1 : decode cX12_qWordHere 1 = .ok (.aload_n 0, 1) := by decide +kernel
theorem dX12_qWordHere_2 : decode cX12_qWordHere 2 = .ok (.getfield 213, 3) := by decide +kernel
theorem dX12_qWordHere_5 : decode cX12_qWordHere 5 = .ok (.invokevirtual 287, 3) := by decide +kernel
theorem dX12_qWordHere_8 : decode cX12_qWordHere 8 = .ok (.ifCond .eq 5, 3) := by decide +kernel
theorem dX12_qWordHere_11 : decode cX12_qWordHere 11 = .ok (.iconst 0, 1) := by decide +kernel
theorem dX12_qWordHere_12 : decode cX12_qWordHere 12 = .ok (.ireturn, 1) := by decide +kernel
theorem dX12_qWordHere_13 : decode cX12_qWordHere 13 = .ok (.aload_n 0, 1) := by decide +kernel
theorem dX12_qWordHere_14 : decode cX12_qWordHere 14 = .ok (.aload_n 0, 1) := by decide +kernel
theorem dX12_qWordHere_15 : decode cX12_qWordHere 15 = .ok (.getfield 216, 3) := by decide +kernel
theorem dX12_qWordHere_18 : decode cX12_qWordHere 18 = .ok (.invokevirtual 287, 3) := by decide +kernel
theorem dX12_qWordHere_21 : decode cX12_qWordHere 21 = .ok (.ifCond .eq 5, 3) := by decide +kernel
theorem dX12_qWordHere_24 : decode cX12_qWordHere 24 = .ok (.iconst 1, 1) := by decide +kernel
theorem dX12_qWordHere_25 : decode cX12_qWordHere 25 = .ok (.ireturn, 1) := by decide +kernel
theorem dX12_qWordHere_26 : decode cX12_qWordHere 26 = .ok (.aload_n 0, 1) := by decide +kernel
theorem dX12_qWordHere_27 : decode cX12_qWordHere 27 = .ok (.aload_n 0, 1) := by decide +kernel
theorem dX12_qWordHere_28 : decode cX12_qWordHere 28 = .ok (.getfield 219, 3) := by decide +kernel
theorem dX12_qWordHere_31 : decode cX12_qWordHere 31 = .ok (.invokevirtual 287, 3) := by decide +kernel
theorem dX12_qWordHere_34 : decode cX12_qWordHere 34 = .ok (.ifCond .eq 5, 3) := by decide +kernel
theorem dX12_qWordHere_37 : decode cX12_qWordHere 37 = .ok (.iconst 2, 1) := by decide +kernel
theorem dX12_qWordHere_38 : decode cX12_qWordHere 38 = .ok (.ireturn, 1) := by decide +kernel
theorem dX12_qWordHere_39 : decode cX12_qWordHere 39 = .ok (.aload_n 0, 1) := by decide +kernel
theorem dX12_qWordHere_40 : decode cX12_qWordHere 40 = .ok (.aload_n 0, 1) := by decide +kernel
theorem dX12_qWordHere_41 : decode cX12_qWordHere 41 = .ok (.getfield 222, 3) := by decide +kernel
theorem dX12_qWordHere_44 : decode cX12_qWordHere 44 = .ok (.invokevirtual 287, 3) := by decide +kernel
theorem dX12_qWordHere_47 : decode cX12_qWordHere 47 = .ok (.ifCond .eq 5, 3) := by decide +kernel
theorem dX12_qWordHere_50 : decode cX12_qWordHere 50 = .ok (.iconst 3, 1) := by decide +kernel
theorem dX12_qWordHere_51 : decode cX12_qWordHere 51 = .ok (.ireturn, 1) := by decide +kernel
theorem dX12_qWordHere_52 : decode cX12_qWordHere 52 = .ok (.aload_n 0, 1) := by decide +kernel
theorem dX12_qWordHere_53 : decode cX12_qWordHere 53 = .ok (.aload_n 0, 1) := by decide +kernel
theorem dX12_qWordHere_54 : decode cX12_qWordHere 54 = .ok (.getfield 225, 3) := by decide +kernel
theorem dX12_qWordHere_57 : decode cX12_qWordHere 57 = .ok (.invokevirtual 287, 3) := by decide +kernel
theorem dX12_qWordHere_60 : decode cX12_qWordHere 60 = .ok (.ifCond .eq 5, 3) := by decide +kernel
theorem dX12_qWordHere_63 : decode cX12_qWordHere 63 = .ok (.iconst 4, 1) := by decide +kernel
theorem dX12_qWordHere_64 : decode cX12_qWordHere 64 = .ok (.ireturn, 1) := by decide +kernel
theorem dX12_qWordHere_65 : decode cX12_qWordHere 65 = .ok (.aload_n 0, 1) := by decide +kernel
theorem dX12_qWordHere_66 : decode cX12_qWordHere 66 = .ok (.aload_n 0, 1) := by decide +kernel
theorem dX12_qWordHere_67 : decode cX12_qWordHere 67 = .ok (.getfield 228, 3) := by decide +kernel
theorem dX12_qWordHere_70 : decode cX12_qWordHere 70 = .ok (.invokevirtual 287, 3) := by decide +kernel
theorem dX12_qWordHere_73 : decode cX12_qWordHere 73 = .ok (.ifCond .eq 5, 3) := by decide +kernel
theorem dX12_qWordHere_76 : decode cX12_qWordHere 76 = .ok (.iconst 5, 1) := by decide +kernel
theorem dX12_qWordHere_77 : decode cX12_qWordHere 77 = .ok (.ireturn, 1) := by decide +kernel
theorem dX12_qWordHere_78 : decode cX12_qWordHere 78 = .ok (.aload_n 0, 1) := by decide +kernel
theorem dX12_qWordHere_79 : decode cX12_qWordHere 79 = .ok (.aload_n 0, 1) := by decide +kernel
theorem dX12_qWordHere_80 : decode cX12_qWordHere 80 = .ok (.getfield 231, 3) := by decide +kernel
theorem dX12_qWordHere_83 : decode cX12_qWordHere 83 = .ok (.invokevirtual 287, 3) := by decide +kernel
theorem dX12_qWordHere_86 : decode cX12_qWordHere 86 = .ok (.ifCond .eq 6, 3) := by decide +kernel
theorem dX12_qWordHere_89 : decode cX12_qWordHere 89 = .ok (.bipush 6, 2) := by decide +kernel
theorem dX12_qWordHere_91 : decode cX12_qWordHere 91 = .ok (.ireturn, 1) := by decide +kernel
theorem dX12_qWordHere_92 : decode cX12_qWordHere 92 = .ok (.aload_n 0, 1) := by decide +kernel
theorem dX12_qWordHere_93 : decode cX12_qWordHere 93 = .ok (.aload_n 0, 1) := by decide +kernel
theorem dX12_qWordHere_94 : decode cX12_qWordHere 94 = .ok (.getfield 234, 3) := by decide +kernel
theorem dX12_qWordHere_97 : decode cX12_qWordHere 97 = .ok (.invokevirtual 287, 3) := by decide +kernel
theorem dX12_qWordHere_100 : decode cX12_qWordHere 100 = .ok (.ifCond .eq 6, 3) := by decide +kernel
theorem dX12_qWordHere_103 : decode cX12_qWordHere 103 = .ok (.bipush 7, 2) := by decide +kernel
theorem dX12_qWordHere_105 : decode cX12_qWordHere 105 = .ok (.ireturn, 1) := by decide +kernel
theorem dX12_qWordHere_106 : decode cX12_qWordHere 106 = .ok (.aload_n 0, 1) := by decide +kernel
theorem dX12_qWordHere_107 : decode cX12_qWordHere 107 = .ok (.aload_n 0, 1) := by decide +kernel
theorem dX12_qWordHere_108 : decode cX12_qWordHere 108 = .ok (.getfield 237, 3) := by decide +kernel
theorem dX12_qWordHere_111 : decode cX12_qWordHere 111 = .ok (.invokevirtual 287, 3) := by decide +kernel
theorem dX12_qWordHere_114 : decode cX12_qWordHere 114 = .ok (.ifCond .eq 6, 3) := by decide +kernel
theorem dX12_qWordHere_117 : decode cX12_qWordHere 117 = .ok (.bipush 8, 2) := by decide +kernel
theorem dX12_qWordHere_119 : decode cX12_qWordHere 119 = .ok (.ireturn, 1) := by decide +kernel
theorem dX12_qWordHere_120 : decode cX12_qWordHere 120 = .ok (.aload_n 0, 1) := by decide +kernel
theorem dX12_qWordHere_121 : decode cX12_qWordHere 121 = .ok (.aload_n 0, 1) := by decide +kernel
theorem dX12_qWordHere_122 : decode cX12_qWordHere 122 = .ok (.getfield 240, 3) := by decide +kernel
theorem dX12_qWordHere_125 : decode cX12_qWordHere 125 = .ok (.invokevirtual 287, 3) := by decide +kernel
theorem dX12_qWordHere_128 : decode cX12_qWordHere 128 = .ok (.ifCond .eq 6, 3) := by decide +kernel
theorem dX12_qWordHere_131 : decode cX12_qWordHere 131 = .ok (.bipush 9, 2) := by decide +kernel
theorem dX12_qWordHere_133 : decode cX12_qWordHere 133 = .ok (.ireturn, 1) := by decide +kernel
theorem dX12_qWordHere_134 : decode cX12_qWordHere 134 = .ok (.aload_n 0, 1) := by decide +kernel
theorem dX12_qWordHere_135 : decode cX12_qWordHere 135 = .ok (.aload_n 0, 1) := by decide +kernel
theorem dX12_qWordHere_136 : decode cX12_qWordHere 136 = .ok (.getfield 243, 3) := by decide +kernel
theorem dX12_qWordHere_139 : decode cX12_qWordHere 139 = .ok (.invokevirtual 287, 3) := by decide +kernel
theorem dX12_qWordHere_142 : decode cX12_qWordHere 142 = .ok (.ifCond .eq 6, 3) := by decide +kernel
theorem dX12_qWordHere_145 : decode cX12_qWordHere 145 = .ok (.bipush 10, 2) := by decide +kernel
theorem dX12_qWordHere_147 : decode cX12_qWordHere 147 = .ok (.ireturn, 1) := by decide +kernel
theorem dX12_qWordHere_148 : decode cX12_qWordHere 148 = .ok (.aload_n 0, 1) := by decide +kernel
theorem dX12_qWordHere_149 : decode cX12_qWordHere 149 = .ok (.aload_n 0, 1) := by decide +kernel
theorem dX12_qWordHere_150 : decode cX12_qWordHere 150 = .ok (.getfield 246, 3) := by decide +kernel
theorem dX12_qWordHere_153 : decode cX12_qWordHere 153 = .ok (.invokevirtual 287, 3) := by decide +kernel
theorem dX12_qWordHere_156 : decode cX12_qWordHere 156 = .ok (.ifCond .eq 6, 3) := by decide +kernel
theorem dX12_qWordHere_159 : decode cX12_qWordHere 159 = .ok (.bipush 11, 2) := by decide +kernel
theorem dX12_qWordHere_161 : decode cX12_qWordHere 161 = .ok (.ireturn, 1) := by decide +kernel
theorem dX12_qWordHere_162 : decode cX12_qWordHere 162 = .ok (.iconst (-1), 1) := by decide +kernel
theorem dX12_qWordHere_163 : decode cX12_qWordHere 163 = .ok (.ireturn, 1) := by decide +kernel
def f_X12_qWordHere (S : Hp) : Option (Int32 × Hp) :=
  ob2 (f_X12_isHere 88 4 S) (fun r1 S1 => if r1 = 0 then ob2 (f_X12_isHere 89 5 S1) (fun r2 S2 => if r2 = 0 then ob2 (f_X12_isHere 90 4 S2) (fun r3 S3 => if r3 = 0 then ob2 (f_X12_isHere 91 4 S3) (fun r4 S4 => if r4 = 0 then ob2 (f_X12_isHere 92 5 S4) (fun r5 S5 => if r5 = 0 then ob2 (f_X12_isHere 93 5 S5) (fun r6 S6 => if r6 = 0 then ob2 (f_X12_isHere 94 6 S6) (fun r7 S7 => if r7 = 0 then ob2 (f_X12_isHere 95 6 S7) (fun r8 S8 => if r8 = 0 then ob2 (f_X12_isHere 96 5 S8) (fun r9 S9 => if r9 = 0 then ob2 (f_X12_isHere 97 5 S9) (fun r10 S10 => if r10 = 0 then ob2 (f_X12_isHere 98 4 S10) (fun r11 S11 => if r11 = 0 then ob2 (f_X12_isHere 99 4 S11) (fun r12 S12 => if r12 = 0 then some ((-1 : Int32), S12) else some ((11 : Int32), S12)) else some ((10 : Int32), S11)) else some ((9 : Int32), S10)) else some ((8 : Int32), S9)) else some ((7 : Int32), S8)) else some ((6 : Int32), S7)) else some ((5 : Int32), S6)) else some ((4 : Int32), S5)) else some ((3 : Int32), S4)) else some ((2 : Int32), S3)) else some ((1 : Int32), S2)) else some ((0 : Int32), S1))
set_option maxHeartbeats 4000000 in
set_option maxRecDepth 100000 in
theorem c_X12_qWordHere (l : Launch) (E : Ev) (S : Hp) (r : (Int32 × Hp)) (h : f_X12_qWordHere S = some r) : ho_M l yM E yX12_qWordHere cX12_qWordHere 1 (some .int) 2 [.ref (E.2.1 0)] S (some (.int r.1), r.2) := by
  refine ho_in (by decide) (Nat.le_of_ble_eq_true rfl) ?_
  intro p e s m args below meth c C hR ls hl
  have C : ho_I p s m args meth c RX12 cX12_qWordHere 1 (some .int) := C
  have hl : lv_has ls 1 [(0, .ref (E.2.1 0))] := hl
  unfold f_X12_qWordHere at h
  refine lv_aload_n C.1 C.2.1 dX12_qWordHere_0 rfl (lv_at hl 0 rfl) ?_
  refine lv_aload_n C.1 C.2.1 dX12_qWordHere_1 rfl (lv_at hl 0 rfl) ?_
  refine ho_getR (a' := 88) C cf12 fM_213 hR aM_0 rfl dX12_qWordHere_2 ?_
  obtain ⟨r1, S1, h1, h⟩ := ob2_ok h
  refine hr_Vi (v := r1) (S' := S1) (As := [.ref (E.2.1 88)]) (rest := []) C cf12 (c_X12_isHere l E 88 4 aM_88 _ _ h1) yv_X12_isHere lk_RX12_287 rfl aM_0 rfl rfl hl.1 (Nat.le_of_ble_eq_true rfl) (by decide) (by decide) hR (ho_A hR) dX12_qWordHere_5 (fun H locs hR => ?_)
  refine lv_if_eq (tgt := 13) C.1 C.2.1 dX12_qWordHere_8 (by decide) (fun hc => ?_) (fun hc => ?_)
  · replace h := if_t h hc
    refine lv_aload_n C.1 C.2.1 dX12_qWordHere_13 rfl (lv_at hl 0 rfl) ?_
    refine lv_aload_n C.1 C.2.1 dX12_qWordHere_14 rfl (lv_at hl 0 rfl) ?_
    refine ho_getR (a' := 89) C cf12 fM_216 hR aM_0 rfl dX12_qWordHere_15 ?_
    obtain ⟨r2, S2, h2, h⟩ := ob2_ok h
    refine hr_Vi (v := r2) (S' := S2) (As := [.ref (E.2.1 89)]) (rest := []) C cf12 (c_X12_isHere l E 89 5 aM_89 _ _ h2) yv_X12_isHere lk_RX12_287 rfl aM_0 rfl rfl hl.1 (Nat.le_of_ble_eq_true rfl) (by decide) (by decide) hR (ho_A hR) dX12_qWordHere_18 (fun H locs hR => ?_)
    refine lv_if_eq (tgt := 26) C.1 C.2.1 dX12_qWordHere_21 (by decide) (fun hc => ?_) (fun hc => ?_)
    · replace h := if_t h hc
      refine lv_aload_n C.1 C.2.1 dX12_qWordHere_26 rfl (lv_at hl 0 rfl) ?_
      refine lv_aload_n C.1 C.2.1 dX12_qWordHere_27 rfl (lv_at hl 0 rfl) ?_
      refine ho_getR (a' := 90) C cf12 fM_219 hR aM_0 rfl dX12_qWordHere_28 ?_
      obtain ⟨r3, S3, h3, h⟩ := ob2_ok h
      refine hr_Vi (v := r3) (S' := S3) (As := [.ref (E.2.1 90)]) (rest := []) C cf12 (c_X12_isHere l E 90 4 aM_90 _ _ h3) yv_X12_isHere lk_RX12_287 rfl aM_0 rfl rfl hl.1 (Nat.le_of_ble_eq_true rfl) (by decide) (by decide) hR (ho_A hR) dX12_qWordHere_31 (fun H locs hR => ?_)
      refine lv_if_eq (tgt := 39) C.1 C.2.1 dX12_qWordHere_34 (by decide) (fun hc => ?_) (fun hc => ?_)
      · replace h := if_t h hc
        refine lv_aload_n C.1 C.2.1 dX12_qWordHere_39 rfl (lv_at hl 0 rfl) ?_
        refine lv_aload_n C.1 C.2.1 dX12_qWordHere_40 rfl (lv_at hl 0 rfl) ?_
        refine ho_getR (a' := 91) C cf12 fM_222 hR aM_0 rfl dX12_qWordHere_41 ?_
        obtain ⟨r4, S4, h4, h⟩ := ob2_ok h
        refine hr_Vi (v := r4) (S' := S4) (As := [.ref (E.2.1 91)]) (rest := []) C cf12 (c_X12_isHere l E 91 4 aM_91 _ _ h4) yv_X12_isHere lk_RX12_287 rfl aM_0 rfl rfl hl.1 (Nat.le_of_ble_eq_true rfl) (by decide) (by decide) hR (ho_A hR) dX12_qWordHere_44 (fun H locs hR => ?_)
        refine lv_if_eq (tgt := 52) C.1 C.2.1 dX12_qWordHere_47 (by decide) (fun hc => ?_) (fun hc => ?_)
        · replace h := if_t h hc
          refine lv_aload_n C.1 C.2.1 dX12_qWordHere_52 rfl (lv_at hl 0 rfl) ?_
          refine lv_aload_n C.1 C.2.1 dX12_qWordHere_53 rfl (lv_at hl 0 rfl) ?_
          refine ho_getR (a' := 92) C cf12 fM_225 hR aM_0 rfl dX12_qWordHere_54 ?_
          obtain ⟨r5, S5, h5, h⟩ := ob2_ok h
          refine hr_Vi (v := r5) (S' := S5) (As := [.ref (E.2.1 92)]) (rest := []) C cf12 (c_X12_isHere l E 92 5 aM_92 _ _ h5) yv_X12_isHere lk_RX12_287 rfl aM_0 rfl rfl hl.1 (Nat.le_of_ble_eq_true rfl) (by decide) (by decide) hR (ho_A hR) dX12_qWordHere_57 (fun H locs hR => ?_)
          refine lv_if_eq (tgt := 65) C.1 C.2.1 dX12_qWordHere_60 (by decide) (fun hc => ?_) (fun hc => ?_)
          · replace h := if_t h hc
            refine lv_aload_n C.1 C.2.1 dX12_qWordHere_65 rfl (lv_at hl 0 rfl) ?_
            refine lv_aload_n C.1 C.2.1 dX12_qWordHere_66 rfl (lv_at hl 0 rfl) ?_
            refine ho_getR (a' := 93) C cf12 fM_228 hR aM_0 rfl dX12_qWordHere_67 ?_
            obtain ⟨r6, S6, h6, h⟩ := ob2_ok h
            refine hr_Vi (v := r6) (S' := S6) (As := [.ref (E.2.1 93)]) (rest := []) C cf12 (c_X12_isHere l E 93 5 aM_93 _ _ h6) yv_X12_isHere lk_RX12_287 rfl aM_0 rfl rfl hl.1 (Nat.le_of_ble_eq_true rfl) (by decide) (by decide) hR (ho_A hR) dX12_qWordHere_70 (fun H locs hR => ?_)
            refine lv_if_eq (tgt := 78) C.1 C.2.1 dX12_qWordHere_73 (by decide) (fun hc => ?_) (fun hc => ?_)
            · replace h := if_t h hc
              refine lv_aload_n C.1 C.2.1 dX12_qWordHere_78 rfl (lv_at hl 0 rfl) ?_
              refine lv_aload_n C.1 C.2.1 dX12_qWordHere_79 rfl (lv_at hl 0 rfl) ?_
              refine ho_getR (a' := 94) C cf12 fM_231 hR aM_0 rfl dX12_qWordHere_80 ?_
              obtain ⟨r7, S7, h7, h⟩ := ob2_ok h
              refine hr_Vi (v := r7) (S' := S7) (As := [.ref (E.2.1 94)]) (rest := []) C cf12 (c_X12_isHere l E 94 6 aM_94 _ _ h7) yv_X12_isHere lk_RX12_287 rfl aM_0 rfl rfl hl.1 (Nat.le_of_ble_eq_true rfl) (by decide) (by decide) hR (ho_A hR) dX12_qWordHere_83 (fun H locs hR => ?_)
              refine lv_if_eq (tgt := 92) C.1 C.2.1 dX12_qWordHere_86 (by decide) (fun hc => ?_) (fun hc => ?_)
              · replace h := if_t h hc
                refine lv_aload_n C.1 C.2.1 dX12_qWordHere_92 rfl (lv_at hl 0 rfl) ?_
                refine lv_aload_n C.1 C.2.1 dX12_qWordHere_93 rfl (lv_at hl 0 rfl) ?_
                refine ho_getR (a' := 95) C cf12 fM_234 hR aM_0 rfl dX12_qWordHere_94 ?_
                obtain ⟨r8, S8, h8, h⟩ := ob2_ok h
                refine hr_Vi (v := r8) (S' := S8) (As := [.ref (E.2.1 95)]) (rest := []) C cf12 (c_X12_isHere l E 95 6 aM_95 _ _ h8) yv_X12_isHere lk_RX12_287 rfl aM_0 rfl rfl hl.1 (Nat.le_of_ble_eq_true rfl) (by decide) (by decide) hR (ho_A hR) dX12_qWordHere_97 (fun H locs hR => ?_)
                refine lv_if_eq (tgt := 106) C.1 C.2.1 dX12_qWordHere_100 (by decide) (fun hc => ?_) (fun hc => ?_)
                · replace h := if_t h hc
                  refine lv_aload_n C.1 C.2.1 dX12_qWordHere_106 rfl (lv_at hl 0 rfl) ?_
                  refine lv_aload_n C.1 C.2.1 dX12_qWordHere_107 rfl (lv_at hl 0 rfl) ?_
                  refine ho_getR (a' := 96) C cf12 fM_237 hR aM_0 rfl dX12_qWordHere_108 ?_
                  obtain ⟨r9, S9, h9, h⟩ := ob2_ok h
                  refine hr_Vi (v := r9) (S' := S9) (As := [.ref (E.2.1 96)]) (rest := []) C cf12 (c_X12_isHere l E 96 5 aM_96 _ _ h9) yv_X12_isHere lk_RX12_287 rfl aM_0 rfl rfl hl.1 (Nat.le_of_ble_eq_true rfl) (by decide) (by decide) hR (ho_A hR) dX12_qWordHere_111 (fun H locs hR => ?_)
                  refine lv_if_eq (tgt := 120) C.1 C.2.1 dX12_qWordHere_114 (by decide) (fun hc => ?_) (fun hc => ?_)
                  · replace h := if_t h hc
                    refine lv_aload_n C.1 C.2.1 dX12_qWordHere_120 rfl (lv_at hl 0 rfl) ?_
                    refine lv_aload_n C.1 C.2.1 dX12_qWordHere_121 rfl (lv_at hl 0 rfl) ?_
                    refine ho_getR (a' := 97) C cf12 fM_240 hR aM_0 rfl dX12_qWordHere_122 ?_
                    obtain ⟨r10, S10, h10, h⟩ := ob2_ok h
                    refine hr_Vi (v := r10) (S' := S10) (As := [.ref (E.2.1 97)]) (rest := []) C cf12 (c_X12_isHere l E 97 5 aM_97 _ _ h10) yv_X12_isHere lk_RX12_287 rfl aM_0 rfl rfl hl.1 (Nat.le_of_ble_eq_true rfl) (by decide) (by decide) hR (ho_A hR) dX12_qWordHere_125 (fun H locs hR => ?_)
                    refine lv_if_eq (tgt := 134) C.1 C.2.1 dX12_qWordHere_128 (by decide) (fun hc => ?_) (fun hc => ?_)
                    · replace h := if_t h hc
                      refine lv_aload_n C.1 C.2.1 dX12_qWordHere_134 rfl (lv_at hl 0 rfl) ?_
                      refine lv_aload_n C.1 C.2.1 dX12_qWordHere_135 rfl (lv_at hl 0 rfl) ?_
                      refine ho_getR (a' := 98) C cf12 fM_243 hR aM_0 rfl dX12_qWordHere_136 ?_
                      obtain ⟨r11, S11, h11, h⟩ := ob2_ok h
                      refine hr_Vi (v := r11) (S' := S11) (As := [.ref (E.2.1 98)]) (rest := []) C cf12 (c_X12_isHere l E 98 4 aM_98 _ _ h11) yv_X12_isHere lk_RX12_287 rfl aM_0 rfl rfl hl.1 (Nat.le_of_ble_eq_true rfl) (by decide) (by decide) hR (ho_A hR) dX12_qWordHere_139 (fun H locs hR => ?_)
                      refine lv_if_eq (tgt := 148) C.1 C.2.1 dX12_qWordHere_142 (by decide) (fun hc => ?_) (fun hc => ?_)
                      · replace h := if_t h hc
                        refine lv_aload_n C.1 C.2.1 dX12_qWordHere_148 rfl (lv_at hl 0 rfl) ?_
                        refine lv_aload_n C.1 C.2.1 dX12_qWordHere_149 rfl (lv_at hl 0 rfl) ?_
                        refine ho_getR (a' := 99) C cf12 fM_246 hR aM_0 rfl dX12_qWordHere_150 ?_
                        obtain ⟨r12, S12, h12, h⟩ := ob2_ok h
                        refine hr_Vi (v := r12) (S' := S12) (As := [.ref (E.2.1 99)]) (rest := []) C cf12 (c_X12_isHere l E 99 4 aM_99 _ _ h12) yv_X12_isHere lk_RX12_287 rfl aM_0 rfl rfl hl.1 (Nat.le_of_ble_eq_true rfl) (by decide) (by decide) hR (ho_A hR) dX12_qWordHere_153 (fun H locs hR => ?_)
                        refine lv_if_eq (tgt := 162) C.1 C.2.1 dX12_qWordHere_156 (by decide) (fun hc => ?_) (fun hc => ?_)
                        · replace h := if_t h hc
                          refine lv_iconst (v := (-1 : Int32)) C.1 C.2.1 dX12_qWordHere_162 (by decide) ?_
                          exact ho_iret C hR h dX12_qWordHere_163
                        · replace h := if_f h hc
                          refine lv_bipush (v := (11 : Int32)) C.1 C.2.1 dX12_qWordHere_159 (by decide) ?_
                          exact ho_iret C hR h dX12_qWordHere_161
                      · replace h := if_f h hc
                        refine lv_bipush (v := (10 : Int32)) C.1 C.2.1 dX12_qWordHere_145 (by decide) ?_
                        exact ho_iret C hR h dX12_qWordHere_147
                    · replace h := if_f h hc
                      refine lv_bipush (v := (9 : Int32)) C.1 C.2.1 dX12_qWordHere_131 (by decide) ?_
                      exact ho_iret C hR h dX12_qWordHere_133
                  · replace h := if_f h hc
                    refine lv_bipush (v := (8 : Int32)) C.1 C.2.1 dX12_qWordHere_117 (by decide) ?_
                    exact ho_iret C hR h dX12_qWordHere_119
                · replace h := if_f h hc
                  refine lv_bipush (v := (7 : Int32)) C.1 C.2.1 dX12_qWordHere_103 (by decide) ?_
                  exact ho_iret C hR h dX12_qWordHere_105
              · replace h := if_f h hc
                refine lv_bipush (v := (6 : Int32)) C.1 C.2.1 dX12_qWordHere_89 (by decide) ?_
                exact ho_iret C hR h dX12_qWordHere_91
            · replace h := if_f h hc
              refine lv_iconst (v := (5 : Int32)) C.1 C.2.1 dX12_qWordHere_76 (by decide) ?_
              exact ho_iret C hR h dX12_qWordHere_77
          · replace h := if_f h hc
            refine lv_iconst (v := (4 : Int32)) C.1 C.2.1 dX12_qWordHere_63 (by decide) ?_
            exact ho_iret C hR h dX12_qWordHere_64
        · replace h := if_f h hc
          refine lv_iconst (v := (3 : Int32)) C.1 C.2.1 dX12_qWordHere_50 (by decide) ?_
          exact ho_iret C hR h dX12_qWordHere_51
      · replace h := if_f h hc
        refine lv_iconst (v := (2 : Int32)) C.1 C.2.1 dX12_qWordHere_37 (by decide) ?_
        exact ho_iret C hR h dX12_qWordHere_38
    · replace h := if_f h hc
      refine lv_iconst (v := (1 : Int32)) C.1 C.2.1 dX12_qWordHere_24 (by decide) ?_
      exact ho_iret C hR h dX12_qWordHere_25
  · replace h := if_f h hc
    refine lv_iconst (v := (0 : Int32)) C.1 C.2.1 dX12_qWordHere_11 (by decide) ?_
    exact ho_iret C hR h dX12_qWordHere_12
theorem dX12_qWordOf_0 : decode cX12_qWordOf 0 = .ok (.aload_n 0, 1) := by decide +kernel
theorem dX12_qWordOf_1 : decode cX12_qWordOf 1 = .ok (.invokevirtual 616, 3) := by decide +kernel
theorem dX12_qWordOf_4 : decode cX12_qWordOf 4 = .ok (.istore_n 3, 1) := by decide +kernel
theorem dX12_qWordOf_5 : decode cX12_qWordOf 5 = .ok (.iload_n 3, 1) := by decide +kernel
theorem dX12_qWordOf_6 : decode cX12_qWordOf 6 = .ok (.iload_n 1, 1) := by decide +kernel
theorem dX12_qWordOf_7 : decode cX12_qWordOf 7 = .ok (.if_icmp .lt 20, 3) := by decide +kernel
theorem dX12_qWordOf_10 : decode cX12_qWordOf 10 = .ok (.iload_n 3, 1) := by decide +kernel
theorem dX12_qWordOf_11 : decode cX12_qWordOf 11 = .ok (.iload_n 2, 1) := by decide +kernel
theorem dX12_qWordOf_12 : decode cX12_qWordOf 12 = .ok (.if_icmp .ge 15, 3) := by decide +kernel
theorem dX12_qWordOf_15 : decode cX12_qWordOf 15 = .ok (.aload_n 0, 1) := by decide +kernel
theorem dX12_qWordOf_16 : decode cX12_qWordOf 16 = .ok (.iload_n 3, 1) := by decide +kernel
theorem dX12_qWordOf_17 : decode cX12_qWordOf 17 = .ok (.invokevirtual 619, 3) := by decide +kernel
theorem dX12_qWordOf_20 : decode cX12_qWordOf 20 = .ok (.ifCond .eq 7, 3) := by decide +kernel
theorem dX12_qWordOf_23 : decode cX12_qWordOf 23 = .ok (.iload_n 3, 1) := by decide +kernel
theorem dX12_qWordOf_24 : decode cX12_qWordOf 24 = .ok (.goto 4, 3) := by decide +kernel
theorem dX12_qWordOf_27 : decode cX12_qWordOf 27 = .ok (.iconst (-1), 1) := by decide +kernel
theorem dX12_qWordOf_28 : decode cX12_qWordOf 28 = .ok (.ireturn, 1) := by decide +kernel
def f_X12_qWordOf (x1 : Int32) (x2 : Int32) (S : Hp) : Option (Int32 × Hp) :=
  ob2 (f_X12_qWordHere S) (fun r1 S1 => if r1 < x1 then some ((-1 : Int32), S1) else if x2 ≤ r1 then some ((-1 : Int32), S1) else ob2 (f_X12_isAllowed r1 S1) (fun r2 S2 => if r2 = 0 then some ((-1 : Int32), S2) else some (r1, S2)))
set_option maxHeartbeats 4000000 in
set_option maxRecDepth 100000 in
theorem c_X12_qWordOf (l : Launch) (E : Ev) (x1 : Int32) (x2 : Int32) (S : Hp) (r : (Int32 × Hp)) (h : f_X12_qWordOf x1 x2 S = some r) : ho_M l yM E yX12_qWordOf cX12_qWordOf 4 (some .int) 3 [.ref (E.2.1 0), .int x1, .int x2] S (some (.int r.1), r.2) := by
  refine ho_in (by decide) (Nat.le_of_ble_eq_true rfl) ?_
  intro p e s m args below meth c C hR ls hl
  have C : ho_I p s m args meth c RX12 cX12_qWordOf 4 (some .int) := C
  have hl : lv_has ls 4 [(0, .ref (E.2.1 0)), (1, .int x1), (2, .int x2)] := hl
  unfold f_X12_qWordOf at h
  refine lv_aload_n C.1 C.2.1 dX12_qWordOf_0 rfl (lv_at hl 0 rfl) ?_
  obtain ⟨r1, S1, h1, h⟩ := ob2_ok h
  refine hr_Vi (v := r1) (S' := S1) (As := []) (rest := []) C cf12 (c_X12_qWordHere l E _ _ h1) yv_X12_qWordHere lk_RX12_616 rfl aM_0 rfl rfl hl.1 (Nat.le_of_ble_eq_true rfl) (by decide) (by decide) hR (ho_A hR) dX12_qWordOf_1 (fun H locs hR => ?_)
  refine lv_istore_n (lv' := [(3, .int r1), (0, .ref (E.2.1 0)), (1, .int x1), (2, .int x2)]) C.1 C.2.1 dX12_qWordOf_4 rfl hl (by decide) rfl (fun ls hl => ?_)
  refine lv_iload_n C.1 C.2.1 dX12_qWordOf_5 rfl (lv_at hl 0 rfl) ?_
  refine lv_iload_n C.1 C.2.1 dX12_qWordOf_6 rfl (lv_at hl 2 rfl) ?_
  refine lv_icmp_lt (tgt := 27) C.1 C.2.1 dX12_qWordOf_7 (by decide) (fun hc => ?_) (fun hc => ?_)
  · replace h := if_t h hc
    refine lv_iconst (v := (-1 : Int32)) C.1 C.2.1 dX12_qWordOf_27 (by decide) ?_
    exact ho_iret C hR h dX12_qWordOf_28
  · replace h := if_f h hc
    refine lv_iload_n C.1 C.2.1 dX12_qWordOf_10 rfl (lv_at hl 0 rfl) ?_
    refine lv_iload_n C.1 C.2.1 dX12_qWordOf_11 rfl (lv_at hl 3 rfl) ?_
    refine lv_icmp_ge (tgt := 27) C.1 C.2.1 dX12_qWordOf_12 (by decide) (fun hc => ?_) (fun hc => ?_)
    · replace h := if_t h hc
      refine lv_iconst (v := (-1 : Int32)) C.1 C.2.1 dX12_qWordOf_27 (by decide) ?_
      exact ho_iret C hR h dX12_qWordOf_28
    · replace h := if_f h hc
      refine lv_aload_n C.1 C.2.1 dX12_qWordOf_15 rfl (lv_at hl 1 rfl) ?_
      refine lv_iload_n C.1 C.2.1 dX12_qWordOf_16 rfl (lv_at hl 0 rfl) ?_
      obtain ⟨r2, S2, h2, h⟩ := ob2_ok h
      refine hr_Vi (v := r2) (S' := S2) (As := [.int r1]) (rest := []) C cf12 (c_X12_isAllowed l E r1 _ _ h2) yv_X12_isAllowed lk_RX12_619 rfl aM_0 rfl rfl hl.1 (Nat.le_of_ble_eq_true rfl) (by decide) (by decide) hR (ho_A hR) dX12_qWordOf_17 (fun H locs hR => ?_)
      refine lv_if_eq (tgt := 27) C.1 C.2.1 dX12_qWordOf_20 (by decide) (fun hc => ?_) (fun hc => ?_)
      · replace h := if_t h hc
        refine lv_iconst (v := (-1 : Int32)) C.1 C.2.1 dX12_qWordOf_27 (by decide) ?_
        exact ho_iret C hR h dX12_qWordOf_28
      · replace h := if_f h hc
        refine lv_iload_n C.1 C.2.1 dX12_qWordOf_23 rfl (lv_at hl 0 rfl) ?_
        refine lv_goto (tgt := 28) C.1 C.2.1 dX12_qWordOf_24 (by decide) ?_
        exact ho_iret C hR h dX12_qWordOf_28
theorem dX12_qOpens_0 : decode cX12_qOpens 0 = .ok (.aload_n 0, 1) := by decide +kernel
theorem dX12_qOpens_1 : decode cX12_qOpens 1 = .ok (.getfield 264, 3) := by decide +kernel
theorem dX12_qOpens_4 : decode cX12_qOpens 4 = .ok (.ifCond .eq 4, 3) := by decide +kernel
theorem dX12_qOpens_7 : decode cX12_qOpens 7 = .ok (.return_, 1) := by decide +kernel
theorem dX12_qOpens_8 : decode cX12_qOpens 8 = .ok (.aload_n 0, 1) := by decide +kernel
theorem dX12_qOpens_9 : decode cX12_qOpens 9 = .ok (.getfield 358, 3) := by decide +kernel
theorem dX12_qOpens_12 : decode cX12_qOpens 12 = .ok (.bipush 6, 2) := by decide +kernel
theorem dX12_qOpens_14 : decode cX12_qOpens 14 = .ok (.if_icmp .ne 10, 3) := by decide +kernel
theorem dX12_qOpens_17 : decode cX12_qOpens 17 = .ok (.aload_n 0, 1) := by decide +kernel
theorem dX12_qOpens_18 : decode cX12_qOpens 18 = .ok (.iconst 4, 1) := by decide +kernel
theorem dX12_qOpens_19 : decode cX12_qOpens 19 = .ok (.iload_n 2, 1) := by decide +kernel
theorem dX12_qOpens_20 : decode cX12_qOpens 20 = .ok (.invokevirtual 294, 3) := by decide +kernel
theorem dX12_qOpens_23 : decode cX12_qOpens 23 = .ok (.return_, 1) := by decide +kernel
theorem dX12_qOpens_24 : decode cX12_qOpens 24 = .ok (.aload_n 0, 1) := by decide +kernel
theorem dX12_qOpens_25 : decode cX12_qOpens 25 = .ok (.dup, 1) := by decide +kernel
theorem dX12_qOpens_26 : decode cX12_qOpens 26 = .ok (.getfield 358, 3) := by decide +kernel
theorem dX12_qOpens_29 : decode cX12_qOpens 29 = .ok (.iconst 1, 1) := by decide +kernel
theorem dX12_qOpens_30 : decode cX12_qOpens 30 = .ok (.iadd, 1) := by decide +kernel
theorem dX12_qOpens_31 : decode cX12_qOpens 31 = .ok (.putfield 358, 3) := by decide +kernel
theorem dX12_qOpens_34 : decode cX12_qOpens 34 = .ok (.aload_n 0, 1) := by decide +kernel
theorem dX12_qOpens_35 : decode cX12_qOpens 35 = .ok (.getfield 252, 3) := by decide +kernel
theorem dX12_qOpens_38 : decode cX12_qOpens 38 = .ok (.aload_n 0, 1) := by decide +kernel
theorem dX12_qOpens_39 : decode cX12_qOpens 39 = .ok (.getfield 355, 3) := by decide +kernel
theorem dX12_qOpens_42 : decode cX12_qOpens 42 = .ok (.iload_n 1, 1) := by decide +kernel
theorem dX12_qOpens_43 : decode cX12_qOpens 43 = .ok (.iastore, 1) := by decide +kernel
theorem dX12_qOpens_44 : decode cX12_qOpens 44 = .ok (.aload_n 0, 1) := by decide +kernel
theorem dX12_qOpens_45 : decode cX12_qOpens 45 = .ok (.dup, 1) := by decide +kernel
theorem dX12_qOpens_46 : decode cX12_qOpens 46 = .ok (.getfield 355, 3) := by decide +kernel
theorem dX12_qOpens_49 : decode cX12_qOpens 49 = .ok (.iconst 1, 1) := by decide +kernel
theorem dX12_qOpens_50 : decode cX12_qOpens 50 = .ok (.iadd, 1) := by decide +kernel
theorem dX12_qOpens_51 : decode cX12_qOpens 51 = .ok (.putfield 355, 3) := by decide +kernel
theorem dX12_qOpens_54 : decode cX12_qOpens 54 = .ok (.return_, 1) := by decide +kernel
def f_X12_qOpens (x1 : Int32) (x2 : Int32) (S : Hp) : Option Hp :=
  if (S.1 0 5) = 0 then if (S.1 0 103) = (6 : Int32) then ob (f_X12_fail (4 : Int32) x2 S) (fun S4 => some S4) else le1 (ho_sI S 0 103 ((S.1 0 103) + (1 : Int32))) (fun S1 => stI S1 102 1700 (S1.1 0 102) x1 (fun S2 => le1 (ho_sI S2 0 102 ((S2.1 0 102) + (1 : Int32))) (fun S3 => some S3))) else some S
set_option maxHeartbeats 4000000 in
set_option maxRecDepth 100000 in
theorem c_X12_qOpens (l : Launch) (E : Ev) (x1 : Int32) (x2 : Int32) (S : Hp) (r : Hp) (h : f_X12_qOpens x1 x2 S = some r) : ho_M l yM E yX12_qOpens cX12_qOpens 3 none 1 [.ref (E.2.1 0), .int x1, .int x2] S (none, r) := by
  refine ho_in (by decide) (Nat.le_of_ble_eq_true rfl) ?_
  intro p e s m args below meth c C hR ls hl
  have C : ho_I p s m args meth c RX12 cX12_qOpens 3 none := C
  have hl : lv_has ls 3 [(0, .ref (E.2.1 0)), (1, .int x1), (2, .int x2)] := hl
  unfold f_X12_qOpens at h
  refine lv_aload_n C.1 C.2.1 dX12_qOpens_0 rfl (lv_at hl 0 rfl) ?_
  refine ho_getI C cf12 fM_264 hR aM_0 dX12_qOpens_1 ?_
  refine lv_if_eq (tgt := 8) C.1 C.2.1 dX12_qOpens_4 (by decide) (fun hc => ?_) (fun hc => ?_)
  · replace h := if_t h hc
    refine lv_aload_n C.1 C.2.1 dX12_qOpens_8 rfl (lv_at hl 0 rfl) ?_
    refine ho_getI C cf12 fM_358 hR aM_0 dX12_qOpens_9 ?_
    refine lv_bipush (v := (6 : Int32)) C.1 C.2.1 dX12_qOpens_12 (by decide) ?_
    refine lv_icmp_ne (tgt := 24) C.1 C.2.1 dX12_qOpens_14 (by decide) (fun hc => ?_) (fun hc => ?_)
    · replace h := if_f h hc
      refine lv_aload_n C.1 C.2.1 dX12_qOpens_24 rfl (lv_at hl 0 rfl) ?_
      refine lv_dup C.1 C.2.1 dX12_qOpens_25 rfl ?_
      refine ho_getI C cf12 fM_358 hR aM_0 dX12_qOpens_26 ?_
      refine lv_iconst (v := (1 : Int32)) C.1 C.2.1 dX12_qOpens_29 (by decide) ?_
      refine lv_iadd C.1 C.2.1 dX12_qOpens_30 ?_
      obtain ⟨S1, e1, h⟩ := le1_ok h
      refine hr_putI C cf12 fM_358 hR aM_0 e1 dX12_qOpens_31 (fun H locs hR => ?_)
      refine lv_aload_n C.1 C.2.1 dX12_qOpens_34 rfl (lv_at hl 0 rfl) ?_
      refine ho_getR (a' := 102) C cf12 fM_252 hR aM_0 rfl dX12_qOpens_35 ?_
      refine lv_aload_n C.1 C.2.1 dX12_qOpens_38 rfl (lv_at hl 0 rfl) ?_
      refine ho_getI C cf12 fM_355 hR aM_0 dX12_qOpens_39 ?_
      refine lv_iload_n C.1 C.2.1 dX12_qOpens_42 rfl (lv_at hl 1 rfl) ?_
      obtain ⟨S2, e2, hi2, h⟩ := stI_ok h
      refine hr_ist C hR aM_102 hi2 e2 dX12_qOpens_43 (fun H locs hR => ?_)
      refine lv_aload_n C.1 C.2.1 dX12_qOpens_44 rfl (lv_at hl 0 rfl) ?_
      refine lv_dup C.1 C.2.1 dX12_qOpens_45 rfl ?_
      refine ho_getI C cf12 fM_355 hR aM_0 dX12_qOpens_46 ?_
      refine lv_iconst (v := (1 : Int32)) C.1 C.2.1 dX12_qOpens_49 (by decide) ?_
      refine lv_iadd C.1 C.2.1 dX12_qOpens_50 ?_
      obtain ⟨S3, e3, h⟩ := le1_ok h
      refine hr_putI C cf12 fM_355 hR aM_0 e3 dX12_qOpens_51 (fun H locs hR => ?_)
      exact ho_vret C hR h dX12_qOpens_54
    · replace h := if_t h hc
      refine lv_aload_n C.1 C.2.1 dX12_qOpens_17 rfl (lv_at hl 0 rfl) ?_
      refine lv_iconst (v := (4 : Int32)) C.1 C.2.1 dX12_qOpens_18 (by decide) ?_
      refine lv_iload_n C.1 C.2.1 dX12_qOpens_19 rfl (lv_at hl 2 rfl) ?_
      obtain ⟨S4, h4, h⟩ := ob_ok h
      refine hr_Vv (S' := S4) (As := [.int (4 : Int32), .int x2]) (rest := []) C cf12 (c_X12_fail l E (4 : Int32) x2 _ _ h4) yv_X12_fail lk_RX12_294 rfl aM_0 rfl rfl hl.1 (Nat.le_of_ble_eq_true rfl) (by decide) (by decide) hR (ho_A hR) dX12_qOpens_20 (fun H locs hR => ?_)
      exact ho_vret C hR h dX12_qOpens_23
  · replace h := if_f h hc
    exact ho_vret C hR h dX12_qOpens_7
theorem dX12_qAsksWord_0 : decode cX12_qAsksWord 0 = .ok (.iload_n 1, 1) := by decide +kernel
theorem dX12_qAsksWord_1 : decode cX12_qAsksWord 1 = .ok (.tableswitch 180 0 10 #[59, 70, 81, 92, 103, 114, 125, 136, 147, 158, 169], 59) := by decide +kernel
theorem dX12_qAsksWord_60 : decode cX12_qAsksWord 60 = .ok (.aload_n 0, 1) := by decide +kernel
theorem dX12_qAsksWord_61 : decode cX12_qAsksWord 61 = .ok (.aload_n 0, 1) := by decide +kernel
theorem dX12_qAsksWord_62 : decode cX12_qAsksWord 62 = .ok (.getfield 213, 3) := by decide +kernel
theorem dX12_qAsksWord_65 : decode cX12_qAsksWord 65 = .ok (.invokevirtual 330, 3) := by decide +kernel
theorem dX12_qAsksWord_68 : decode cX12_qAsksWord 68 = .ok (.goto 121, 3) := by decide +kernel
theorem dX12_qAsksWord_71 : decode cX12_qAsksWord 71 = .ok (.aload_n 0, 1) := by decide +kernel
theorem dX12_qAsksWord_72 : decode cX12_qAsksWord 72 = .ok (.aload_n 0, 1) := by decide +kernel
theorem dX12_qAsksWord_73 : decode cX12_qAsksWord 73 = .ok (.getfield 216, 3) := by decide +kernel
theorem dX12_qAsksWord_76 : decode cX12_qAsksWord 76 = .ok (.invokevirtual 330, 3) := by decide +kernel
theorem dX12_qAsksWord_79 : decode cX12_qAsksWord 79 = .ok (.goto 110, 3) := by decide +kernel
theorem dX12_qAsksWord_82 : decode cX12_qAsksWord 82 = .ok (.aload_n 0, 1) := by decide +kernel
theorem dX12_qAsksWord_83 : decode cX12_qAsksWord 83 = .ok (.aload_n 0, 1) := by decide +kernel
theorem dX12_qAsksWord_84 : decode cX12_qAsksWord 84 = .ok (.getfield 219, 3) := by decide +kernel
theorem dX12_qAsksWord_87 : decode cX12_qAsksWord 87 = .ok (.invokevirtual 330, 3) := by decide +kernel
theorem dX12_qAsksWord_90 : decode cX12_qAsksWord 90 = .ok (.goto 99, 3) := by decide +kernel
theorem dX12_qAsksWord_93 : decode cX12_qAsksWord 93 = .ok (.aload_n 0, 1) := by decide +kernel
theorem dX12_qAsksWord_94 : decode cX12_qAsksWord 94 = .ok (.aload_n 0, 1) := by decide +kernel
theorem dX12_qAsksWord_95 : decode cX12_qAsksWord 95 = .ok (.getfield 222, 3) := by decide +kernel
theorem dX12_qAsksWord_98 : decode cX12_qAsksWord 98 = .ok (.invokevirtual 330, 3) := by decide +kernel
theorem dX12_qAsksWord_101 : decode cX12_qAsksWord 101 = .ok (.goto 88, 3) := by decide +kernel
theorem dX12_qAsksWord_104 : decode cX12_qAsksWord 104 = .ok (.aload_n 0, 1) := by decide +kernel
theorem dX12_qAsksWord_105 : decode cX12_qAsksWord 105 = .ok (.aload_n 0, 1) := by decide +kernel
theorem dX12_qAsksWord_106 : decode cX12_qAsksWord 106 = .ok (.getfield 225, 3) := by decide +kernel
theorem dX12_qAsksWord_109 : decode cX12_qAsksWord 109 = .ok (.invokevirtual 330, 3) := by decide +kernel
theorem dX12_qAsksWord_112 : decode cX12_qAsksWord 112 = .ok (.goto 77, 3) := by decide +kernel
theorem dX12_qAsksWord_115 : decode cX12_qAsksWord 115 = .ok (.aload_n 0, 1) := by decide +kernel
theorem dX12_qAsksWord_116 : decode cX12_qAsksWord 116 = .ok (.aload_n 0, 1) := by decide +kernel
theorem dX12_qAsksWord_117 : decode cX12_qAsksWord 117 = .ok (.getfield 228, 3) := by decide +kernel
theorem dX12_qAsksWord_120 : decode cX12_qAsksWord 120 = .ok (.invokevirtual 330, 3) := by decide +kernel
theorem dX12_qAsksWord_123 : decode cX12_qAsksWord 123 = .ok (.goto 66, 3) := by decide +kernel
theorem dX12_qAsksWord_126 : decode cX12_qAsksWord 126 = .ok (.aload_n 0, 1) := by decide +kernel
theorem dX12_qAsksWord_127 : decode cX12_qAsksWord 127 = .ok (.aload_n 0, 1) := by decide +kernel
theorem dX12_qAsksWord_128 : decode cX12_qAsksWord 128 = .ok (.getfield 231, 3) := by decide +kernel
theorem dX12_qAsksWord_131 : decode cX12_qAsksWord 131 = .ok (.invokevirtual 330, 3) := by decide +kernel
theorem dX12_qAsksWord_134 : decode cX12_qAsksWord 134 = .ok (.goto 55, 3) := by decide +kernel
theorem dX12_qAsksWord_137 : decode cX12_qAsksWord 137 = .ok (.aload_n 0, 1) := by decide +kernel
theorem dX12_qAsksWord_138 : decode cX12_qAsksWord 138 = .ok (.aload_n 0, 1) := by decide +kernel
theorem dX12_qAsksWord_139 : decode cX12_qAsksWord 139 = .ok (.getfield 234, 3) := by decide +kernel
theorem dX12_qAsksWord_142 : decode cX12_qAsksWord 142 = .ok (.invokevirtual 330, 3) := by decide +kernel
theorem dX12_qAsksWord_145 : decode cX12_qAsksWord 145 = .ok (.goto 44, 3) := by decide +kernel
theorem dX12_qAsksWord_148 : decode cX12_qAsksWord 148 = .ok (.aload_n 0, 1) := by decide +kernel
theorem dX12_qAsksWord_149 : decode cX12_qAsksWord 149 = .ok (.aload_n 0, 1) := by decide +kernel
theorem dX12_qAsksWord_150 : decode cX12_qAsksWord 150 = .ok (.getfield 237, 3) := by decide +kernel
theorem dX12_qAsksWord_153 : decode cX12_qAsksWord 153 = .ok (.invokevirtual 330, 3) := by decide +kernel
theorem dX12_qAsksWord_156 : decode cX12_qAsksWord 156 = .ok (.goto 33, 3) := by decide +kernel
theorem dX12_qAsksWord_159 : decode cX12_qAsksWord 159 = .ok (.aload_n 0, 1) := by decide +kernel
theorem dX12_qAsksWord_160 : decode cX12_qAsksWord 160 = .ok (.aload_n 0, 1) := by decide +kernel
theorem dX12_qAsksWord_161 : decode cX12_qAsksWord 161 = .ok (.getfield 240, 3) := by decide +kernel
theorem dX12_qAsksWord_164 : decode cX12_qAsksWord 164 = .ok (.invokevirtual 330, 3) := by decide +kernel
theorem dX12_qAsksWord_167 : decode cX12_qAsksWord 167 = .ok (.goto 22, 3) := by decide +kernel
theorem dX12_qAsksWord_170 : decode cX12_qAsksWord 170 = .ok (.aload_n 0, 1) := by decide +kernel
theorem dX12_qAsksWord_171 : decode cX12_qAsksWord 171 = .ok (.aload_n 0, 1) := by decide +kernel
theorem dX12_qAsksWord_172 : decode cX12_qAsksWord 172 = .ok (.getfield 243, 3) := by decide +kernel
theorem dX12_qAsksWord_175 : decode cX12_qAsksWord 175 = .ok (.invokevirtual 330, 3) := by decide +kernel
theorem dX12_qAsksWord_178 : decode cX12_qAsksWord 178 = .ok (.goto 11, 3) := by decide +kernel
theorem dX12_qAsksWord_181 : decode cX12_qAsksWord 181 = .ok (.aload_n 0, 1) := by decide +kernel
theorem dX12_qAsksWord_182 : decode cX12_qAsksWord 182 = .ok (.aload_n 0, 1) := by decide +kernel
theorem dX12_qAsksWord_183 : decode cX12_qAsksWord 183 = .ok (.getfield 246, 3) := by decide +kernel
theorem dX12_qAsksWord_186 : decode cX12_qAsksWord 186 = .ok (.invokevirtual 330, 3) := by decide +kernel
theorem dX12_qAsksWord_189 : decode cX12_qAsksWord 189 = .ok (.return_, 1) := by decide +kernel
def f_X12_qAsksWord (x1 : Int32) (S : Hp) : Option Hp :=
  if x1 = (0 : Int32) then ob (f_X12_asks 88 4 S) (fun S1 => some S1) else if x1 = (1 : Int32) then ob (f_X12_asks 89 5 S) (fun S2 => some S2) else if x1 = (2 : Int32) then ob (f_X12_asks 90 4 S) (fun S3 => some S3) else if x1 = (3 : Int32) then ob (f_X12_asks 91 4 S) (fun S4 => some S4) else if x1 = (4 : Int32) then ob (f_X12_asks 92 5 S) (fun S5 => some S5) else if x1 = (5 : Int32) then ob (f_X12_asks 93 5 S) (fun S6 => some S6) else if x1 = (6 : Int32) then ob (f_X12_asks 94 6 S) (fun S7 => some S7) else if x1 = (7 : Int32) then ob (f_X12_asks 95 6 S) (fun S8 => some S8) else if x1 = (8 : Int32) then ob (f_X12_asks 96 5 S) (fun S9 => some S9) else if x1 = (9 : Int32) then ob (f_X12_asks 97 5 S) (fun S10 => some S10) else if x1 = (10 : Int32) then ob (f_X12_asks 98 4 S) (fun S11 => some S11) else ob (f_X12_asks 99 4 S) (fun S12 => some S12)
set_option maxHeartbeats 4000000 in
set_option maxRecDepth 100000 in
theorem c_X12_qAsksWord (l : Launch) (E : Ev) (x1 : Int32) (S : Hp) (r : Hp) (h : f_X12_qAsksWord x1 S = some r) : ho_M l yM E yX12_qAsksWord cX12_qAsksWord 2 none 4 [.ref (E.2.1 0), .int x1] S (none, r) := by
  refine ho_in (by decide) (Nat.le_of_ble_eq_true rfl) ?_
  intro p e s m args below meth c C hR ls hl
  have C : ho_I p s m args meth c RX12 cX12_qAsksWord 2 none := C
  have hl : lv_has ls 2 [(0, .ref (E.2.1 0)), (1, .int x1)] := hl
  unfold f_X12_qAsksWord at h
  refine lv_iload_n C.1 C.2.1 dX12_qAsksWord_0 rfl (lv_at hl 1 rfl) ?_
  by_cases hc0 : x1 = (0 : Int32)
  · replace h := if_t h hc0
    have hx : (x1).toInt = 0 := by rw [hc0]; decide
    refine lv_tableIn (off := 59) (tgt := 60) C.1 C.2.1 dX12_qAsksWord_1 (by rw [hx]; decide) (by rw [hx]; decide) (by rw [hx]; decide) (by decide) ?_
    refine lv_aload_n C.1 C.2.1 dX12_qAsksWord_60 rfl (lv_at hl 0 rfl) ?_
    refine lv_aload_n C.1 C.2.1 dX12_qAsksWord_61 rfl (lv_at hl 0 rfl) ?_
    refine ho_getR (a' := 88) C cf12 fM_213 hR aM_0 rfl dX12_qAsksWord_62 ?_
    obtain ⟨S1, h1, h⟩ := ob_ok h
    refine hr_Vv (S' := S1) (As := [.ref (E.2.1 88)]) (rest := []) C cf12 (c_X12_asks l E 88 4 aM_88 _ _ h1) yv_X12_asks lk_RX12_330 rfl aM_0 rfl rfl hl.1 (Nat.le_of_ble_eq_true rfl) (by decide) (by decide) hR (ho_A hR) dX12_qAsksWord_65 (fun H locs hR => ?_)
    refine lv_goto (tgt := 189) C.1 C.2.1 dX12_qAsksWord_68 (by decide) ?_
    exact ho_vret C hR h dX12_qAsksWord_189
  · replace h := if_f h hc0
    by_cases hc1 : x1 = (1 : Int32)
    · replace h := if_t h hc1
      have hx : (x1).toInt = 1 := by rw [hc1]; decide
      refine lv_tableIn (off := 70) (tgt := 71) C.1 C.2.1 dX12_qAsksWord_1 (by rw [hx]; decide) (by rw [hx]; decide) (by rw [hx]; decide) (by decide) ?_
      refine lv_aload_n C.1 C.2.1 dX12_qAsksWord_71 rfl (lv_at hl 0 rfl) ?_
      refine lv_aload_n C.1 C.2.1 dX12_qAsksWord_72 rfl (lv_at hl 0 rfl) ?_
      refine ho_getR (a' := 89) C cf12 fM_216 hR aM_0 rfl dX12_qAsksWord_73 ?_
      obtain ⟨S2, h2, h⟩ := ob_ok h
      refine hr_Vv (S' := S2) (As := [.ref (E.2.1 89)]) (rest := []) C cf12 (c_X12_asks l E 89 5 aM_89 _ _ h2) yv_X12_asks lk_RX12_330 rfl aM_0 rfl rfl hl.1 (Nat.le_of_ble_eq_true rfl) (by decide) (by decide) hR (ho_A hR) dX12_qAsksWord_76 (fun H locs hR => ?_)
      refine lv_goto (tgt := 189) C.1 C.2.1 dX12_qAsksWord_79 (by decide) ?_
      exact ho_vret C hR h dX12_qAsksWord_189
    · replace h := if_f h hc1
      by_cases hc2 : x1 = (2 : Int32)
      · replace h := if_t h hc2
        have hx : (x1).toInt = 2 := by rw [hc2]; decide
        refine lv_tableIn (off := 81) (tgt := 82) C.1 C.2.1 dX12_qAsksWord_1 (by rw [hx]; decide) (by rw [hx]; decide) (by rw [hx]; decide) (by decide) ?_
        refine lv_aload_n C.1 C.2.1 dX12_qAsksWord_82 rfl (lv_at hl 0 rfl) ?_
        refine lv_aload_n C.1 C.2.1 dX12_qAsksWord_83 rfl (lv_at hl 0 rfl) ?_
        refine ho_getR (a' := 90) C cf12 fM_219 hR aM_0 rfl dX12_qAsksWord_84 ?_
        obtain ⟨S3, h3, h⟩ := ob_ok h
        refine hr_Vv (S' := S3) (As := [.ref (E.2.1 90)]) (rest := []) C cf12 (c_X12_asks l E 90 4 aM_90 _ _ h3) yv_X12_asks lk_RX12_330 rfl aM_0 rfl rfl hl.1 (Nat.le_of_ble_eq_true rfl) (by decide) (by decide) hR (ho_A hR) dX12_qAsksWord_87 (fun H locs hR => ?_)
        refine lv_goto (tgt := 189) C.1 C.2.1 dX12_qAsksWord_90 (by decide) ?_
        exact ho_vret C hR h dX12_qAsksWord_189
      · replace h := if_f h hc2
        by_cases hc3 : x1 = (3 : Int32)
        · replace h := if_t h hc3
          have hx : (x1).toInt = 3 := by rw [hc3]; decide
          refine lv_tableIn (off := 92) (tgt := 93) C.1 C.2.1 dX12_qAsksWord_1 (by rw [hx]; decide) (by rw [hx]; decide) (by rw [hx]; decide) (by decide) ?_
          refine lv_aload_n C.1 C.2.1 dX12_qAsksWord_93 rfl (lv_at hl 0 rfl) ?_
          refine lv_aload_n C.1 C.2.1 dX12_qAsksWord_94 rfl (lv_at hl 0 rfl) ?_
          refine ho_getR (a' := 91) C cf12 fM_222 hR aM_0 rfl dX12_qAsksWord_95 ?_
          obtain ⟨S4, h4, h⟩ := ob_ok h
          refine hr_Vv (S' := S4) (As := [.ref (E.2.1 91)]) (rest := []) C cf12 (c_X12_asks l E 91 4 aM_91 _ _ h4) yv_X12_asks lk_RX12_330 rfl aM_0 rfl rfl hl.1 (Nat.le_of_ble_eq_true rfl) (by decide) (by decide) hR (ho_A hR) dX12_qAsksWord_98 (fun H locs hR => ?_)
          refine lv_goto (tgt := 189) C.1 C.2.1 dX12_qAsksWord_101 (by decide) ?_
          exact ho_vret C hR h dX12_qAsksWord_189
        · replace h := if_f h hc3
          by_cases hc4 : x1 = (4 : Int32)
          · replace h := if_t h hc4
            have hx : (x1).toInt = 4 := by rw [hc4]; decide
            refine lv_tableIn (off := 103) (tgt := 104) C.1 C.2.1 dX12_qAsksWord_1 (by rw [hx]; decide) (by rw [hx]; decide) (by rw [hx]; decide) (by decide) ?_
            refine lv_aload_n C.1 C.2.1 dX12_qAsksWord_104 rfl (lv_at hl 0 rfl) ?_
            refine lv_aload_n C.1 C.2.1 dX12_qAsksWord_105 rfl (lv_at hl 0 rfl) ?_
            refine ho_getR (a' := 92) C cf12 fM_225 hR aM_0 rfl dX12_qAsksWord_106 ?_
            obtain ⟨S5, h5, h⟩ := ob_ok h
            refine hr_Vv (S' := S5) (As := [.ref (E.2.1 92)]) (rest := []) C cf12 (c_X12_asks l E 92 5 aM_92 _ _ h5) yv_X12_asks lk_RX12_330 rfl aM_0 rfl rfl hl.1 (Nat.le_of_ble_eq_true rfl) (by decide) (by decide) hR (ho_A hR) dX12_qAsksWord_109 (fun H locs hR => ?_)
            refine lv_goto (tgt := 189) C.1 C.2.1 dX12_qAsksWord_112 (by decide) ?_
            exact ho_vret C hR h dX12_qAsksWord_189
          · replace h := if_f h hc4
            by_cases hc5 : x1 = (5 : Int32)
            · replace h := if_t h hc5
              have hx : (x1).toInt = 5 := by rw [hc5]; decide
              refine lv_tableIn (off := 114) (tgt := 115) C.1 C.2.1 dX12_qAsksWord_1 (by rw [hx]; decide) (by rw [hx]; decide) (by rw [hx]; decide) (by decide) ?_
              refine lv_aload_n C.1 C.2.1 dX12_qAsksWord_115 rfl (lv_at hl 0 rfl) ?_
              refine lv_aload_n C.1 C.2.1 dX12_qAsksWord_116 rfl (lv_at hl 0 rfl) ?_
              refine ho_getR (a' := 93) C cf12 fM_228 hR aM_0 rfl dX12_qAsksWord_117 ?_
              obtain ⟨S6, h6, h⟩ := ob_ok h
              refine hr_Vv (S' := S6) (As := [.ref (E.2.1 93)]) (rest := []) C cf12 (c_X12_asks l E 93 5 aM_93 _ _ h6) yv_X12_asks lk_RX12_330 rfl aM_0 rfl rfl hl.1 (Nat.le_of_ble_eq_true rfl) (by decide) (by decide) hR (ho_A hR) dX12_qAsksWord_120 (fun H locs hR => ?_)
              refine lv_goto (tgt := 189) C.1 C.2.1 dX12_qAsksWord_123 (by decide) ?_
              exact ho_vret C hR h dX12_qAsksWord_189
            · replace h := if_f h hc5
              by_cases hc6 : x1 = (6 : Int32)
              · replace h := if_t h hc6
                have hx : (x1).toInt = 6 := by rw [hc6]; decide
                refine lv_tableIn (off := 125) (tgt := 126) C.1 C.2.1 dX12_qAsksWord_1 (by rw [hx]; decide) (by rw [hx]; decide) (by rw [hx]; decide) (by decide) ?_
                refine lv_aload_n C.1 C.2.1 dX12_qAsksWord_126 rfl (lv_at hl 0 rfl) ?_
                refine lv_aload_n C.1 C.2.1 dX12_qAsksWord_127 rfl (lv_at hl 0 rfl) ?_
                refine ho_getR (a' := 94) C cf12 fM_231 hR aM_0 rfl dX12_qAsksWord_128 ?_
                obtain ⟨S7, h7, h⟩ := ob_ok h
                refine hr_Vv (S' := S7) (As := [.ref (E.2.1 94)]) (rest := []) C cf12 (c_X12_asks l E 94 6 aM_94 _ _ h7) yv_X12_asks lk_RX12_330 rfl aM_0 rfl rfl hl.1 (Nat.le_of_ble_eq_true rfl) (by decide) (by decide) hR (ho_A hR) dX12_qAsksWord_131 (fun H locs hR => ?_)
                refine lv_goto (tgt := 189) C.1 C.2.1 dX12_qAsksWord_134 (by decide) ?_
                exact ho_vret C hR h dX12_qAsksWord_189
              · replace h := if_f h hc6
                by_cases hc7 : x1 = (7 : Int32)
                · replace h := if_t h hc7
                  have hx : (x1).toInt = 7 := by rw [hc7]; decide
                  refine lv_tableIn (off := 136) (tgt := 137) C.1 C.2.1 dX12_qAsksWord_1 (by rw [hx]; decide) (by rw [hx]; decide) (by rw [hx]; decide) (by decide) ?_
                  refine lv_aload_n C.1 C.2.1 dX12_qAsksWord_137 rfl (lv_at hl 0 rfl) ?_
                  refine lv_aload_n C.1 C.2.1 dX12_qAsksWord_138 rfl (lv_at hl 0 rfl) ?_
                  refine ho_getR (a' := 95) C cf12 fM_234 hR aM_0 rfl dX12_qAsksWord_139 ?_
                  obtain ⟨S8, h8, h⟩ := ob_ok h
                  refine hr_Vv (S' := S8) (As := [.ref (E.2.1 95)]) (rest := []) C cf12 (c_X12_asks l E 95 6 aM_95 _ _ h8) yv_X12_asks lk_RX12_330 rfl aM_0 rfl rfl hl.1 (Nat.le_of_ble_eq_true rfl) (by decide) (by decide) hR (ho_A hR) dX12_qAsksWord_142 (fun H locs hR => ?_)
                  refine lv_goto (tgt := 189) C.1 C.2.1 dX12_qAsksWord_145 (by decide) ?_
                  exact ho_vret C hR h dX12_qAsksWord_189
                · replace h := if_f h hc7
                  by_cases hc8 : x1 = (8 : Int32)
                  · replace h := if_t h hc8
                    have hx : (x1).toInt = 8 := by rw [hc8]; decide
                    refine lv_tableIn (off := 147) (tgt := 148) C.1 C.2.1 dX12_qAsksWord_1 (by rw [hx]; decide) (by rw [hx]; decide) (by rw [hx]; decide) (by decide) ?_
                    refine lv_aload_n C.1 C.2.1 dX12_qAsksWord_148 rfl (lv_at hl 0 rfl) ?_
                    refine lv_aload_n C.1 C.2.1 dX12_qAsksWord_149 rfl (lv_at hl 0 rfl) ?_
                    refine ho_getR (a' := 96) C cf12 fM_237 hR aM_0 rfl dX12_qAsksWord_150 ?_
                    obtain ⟨S9, h9, h⟩ := ob_ok h
                    refine hr_Vv (S' := S9) (As := [.ref (E.2.1 96)]) (rest := []) C cf12 (c_X12_asks l E 96 5 aM_96 _ _ h9) yv_X12_asks lk_RX12_330 rfl aM_0 rfl rfl hl.1 (Nat.le_of_ble_eq_true rfl) (by decide) (by decide) hR (ho_A hR) dX12_qAsksWord_153 (fun H locs hR => ?_)
                    refine lv_goto (tgt := 189) C.1 C.2.1 dX12_qAsksWord_156 (by decide) ?_
                    exact ho_vret C hR h dX12_qAsksWord_189
                  · replace h := if_f h hc8
                    by_cases hc9 : x1 = (9 : Int32)
                    · replace h := if_t h hc9
                      have hx : (x1).toInt = 9 := by rw [hc9]; decide
                      refine lv_tableIn (off := 158) (tgt := 159) C.1 C.2.1 dX12_qAsksWord_1 (by rw [hx]; decide) (by rw [hx]; decide) (by rw [hx]; decide) (by decide) ?_
                      refine lv_aload_n C.1 C.2.1 dX12_qAsksWord_159 rfl (lv_at hl 0 rfl) ?_
                      refine lv_aload_n C.1 C.2.1 dX12_qAsksWord_160 rfl (lv_at hl 0 rfl) ?_
                      refine ho_getR (a' := 97) C cf12 fM_240 hR aM_0 rfl dX12_qAsksWord_161 ?_
                      obtain ⟨S10, h10, h⟩ := ob_ok h
                      refine hr_Vv (S' := S10) (As := [.ref (E.2.1 97)]) (rest := []) C cf12 (c_X12_asks l E 97 5 aM_97 _ _ h10) yv_X12_asks lk_RX12_330 rfl aM_0 rfl rfl hl.1 (Nat.le_of_ble_eq_true rfl) (by decide) (by decide) hR (ho_A hR) dX12_qAsksWord_164 (fun H locs hR => ?_)
                      refine lv_goto (tgt := 189) C.1 C.2.1 dX12_qAsksWord_167 (by decide) ?_
                      exact ho_vret C hR h dX12_qAsksWord_189
                    · replace h := if_f h hc9
                      by_cases hc10 : x1 = (10 : Int32)
                      · replace h := if_t h hc10
                        have hx : (x1).toInt = 10 := by rw [hc10]; decide
                        refine lv_tableIn (off := 169) (tgt := 170) C.1 C.2.1 dX12_qAsksWord_1 (by rw [hx]; decide) (by rw [hx]; decide) (by rw [hx]; decide) (by decide) ?_
                        refine lv_aload_n C.1 C.2.1 dX12_qAsksWord_170 rfl (lv_at hl 0 rfl) ?_
                        refine lv_aload_n C.1 C.2.1 dX12_qAsksWord_171 rfl (lv_at hl 0 rfl) ?_
                        refine ho_getR (a' := 98) C cf12 fM_243 hR aM_0 rfl dX12_qAsksWord_172 ?_
                        obtain ⟨S11, h11, h⟩ := ob_ok h
                        refine hr_Vv (S' := S11) (As := [.ref (E.2.1 98)]) (rest := []) C cf12 (c_X12_asks l E 98 4 aM_98 _ _ h11) yv_X12_asks lk_RX12_330 rfl aM_0 rfl rfl hl.1 (Nat.le_of_ble_eq_true rfl) (by decide) (by decide) hR (ho_A hR) dX12_qAsksWord_175 (fun H locs hR => ?_)
                        refine lv_goto (tgt := 189) C.1 C.2.1 dX12_qAsksWord_178 (by decide) ?_
                        exact ho_vret C hR h dX12_qAsksWord_189
                      · replace h := if_f h hc10
                        have hx0 := lv_neT hc0 (a := 0) (by decide)
                        have hx1 := lv_neT hc1 (a := 1) (by decide)
                        have hx2 := lv_neT hc2 (a := 2) (by decide)
                        have hx3 := lv_neT hc3 (a := 3) (by decide)
                        have hx4 := lv_neT hc4 (a := 4) (by decide)
                        have hx5 := lv_neT hc5 (a := 5) (by decide)
                        have hx6 := lv_neT hc6 (a := 6) (by decide)
                        have hx7 := lv_neT hc7 (a := 7) (by decide)
                        have hx8 := lv_neT hc8 (a := 8) (by decide)
                        have hx9 := lv_neT hc9 (a := 9) (by decide)
                        have hx10 := lv_neT hc10 (a := 10) (by decide)
                        refine lv_tableOut (tgt := 181) C.1 C.2.1 dX12_qAsksWord_1 (by omega) (by decide) ?_
                        refine lv_aload_n C.1 C.2.1 dX12_qAsksWord_181 rfl (lv_at hl 0 rfl) ?_
                        refine lv_aload_n C.1 C.2.1 dX12_qAsksWord_182 rfl (lv_at hl 0 rfl) ?_
                        refine ho_getR (a' := 99) C cf12 fM_246 hR aM_0 rfl dX12_qAsksWord_183 ?_
                        obtain ⟨S12, h12, h⟩ := ob_ok h
                        refine hr_Vv (S' := S12) (As := [.ref (E.2.1 99)]) (rest := []) C cf12 (c_X12_asks l E 99 4 aM_99 _ _ h12) yv_X12_asks lk_RX12_330 rfl aM_0 rfl rfl hl.1 (Nat.le_of_ble_eq_true rfl) (by decide) (by decide) hR (ho_A hR) dX12_qAsksWord_186 (fun H locs hR => ?_)
                        exact ho_vret C hR h dX12_qAsksWord_189
theorem dX12_qCode_0 : decode cX12_qCode 0 = .ok (.aload_n 0, 1) := by decide +kernel
theorem dX12_qCode_1 : decode cX12_qCode 1 = .ok (.getfield 249, 3) := by decide +kernel
theorem dX12_qCode_4 : decode cX12_qCode 4 = .ok (.aload_n 0, 1) := by decide +kernel
theorem dX12_qCode_5 : decode cX12_qCode 5 = .ok (.getfield 352, 3) := by decide +kernel
theorem dX12_qCode_8 : decode cX12_qCode 8 = .ok (.iload_n 1, 1) := by decide +kernel
theorem dX12_qCode_9 : decode cX12_qCode 9 = .ok (.iastore, 1) := by decide +kernel
theorem dX12_qCode_10 : decode cX12_qCode 10 = .ok (.aload_n 0, 1) := by decide +kernel
theorem dX12_qCode_11 : decode cX12_qCode 11 = .ok (.dup, 1) := by decide +kernel
theorem dX12_qCode_12 : decode cX12_qCode 12 = .ok (.getfield 352, 3) := by decide +kernel
theorem dX12_qCode_15 : decode cX12_qCode 15 = .ok (.iconst 1, 1) := by decide +kernel
theorem dX12_qCode_16 : decode cX12_qCode 16 = .ok (.iadd, 1) := by decide +kernel
theorem dX12_qCode_17 : decode cX12_qCode 17 = .ok (.putfield 352, 3) := by decide +kernel
theorem dX12_qCode_20 : decode cX12_qCode 20 = .ok (.return_, 1) := by decide +kernel
def f_X12_qCode (x1 : Int32) (S : Hp) : Option Hp :=
  stI S 100 1700 (S.1 0 100) x1 (fun S1 => le1 (ho_sI S1 0 100 ((S1.1 0 100) + (1 : Int32))) (fun S2 => some S2))
set_option maxHeartbeats 4000000 in
set_option maxRecDepth 100000 in
theorem c_X12_qCode (l : Launch) (E : Ev) (x1 : Int32) (S : Hp) (r : Hp) (h : f_X12_qCode x1 S = some r) : ho_M l yM E yX12_qCode cX12_qCode 2 none 0 [.ref (E.2.1 0), .int x1] S (none, r) := by
  refine ho_in (by decide) (Nat.le_of_ble_eq_true rfl) ?_
  intro p e s m args below meth c C hR ls hl
  have C : ho_I p s m args meth c RX12 cX12_qCode 2 none := C
  have hl : lv_has ls 2 [(0, .ref (E.2.1 0)), (1, .int x1)] := hl
  unfold f_X12_qCode at h
  refine lv_aload_n C.1 C.2.1 dX12_qCode_0 rfl (lv_at hl 0 rfl) ?_
  refine ho_getR (a' := 100) C cf12 fM_249 hR aM_0 rfl dX12_qCode_1 ?_
  refine lv_aload_n C.1 C.2.1 dX12_qCode_4 rfl (lv_at hl 0 rfl) ?_
  refine ho_getI C cf12 fM_352 hR aM_0 dX12_qCode_5 ?_
  refine lv_iload_n C.1 C.2.1 dX12_qCode_8 rfl (lv_at hl 1 rfl) ?_
  obtain ⟨S1, e1, hi1, h⟩ := stI_ok h
  refine hr_ist C hR aM_100 hi1 e1 dX12_qCode_9 (fun H locs hR => ?_)
  refine lv_aload_n C.1 C.2.1 dX12_qCode_10 rfl (lv_at hl 0 rfl) ?_
  refine lv_dup C.1 C.2.1 dX12_qCode_11 rfl ?_
  refine ho_getI C cf12 fM_352 hR aM_0 dX12_qCode_12 ?_
  refine lv_iconst (v := (1 : Int32)) C.1 C.2.1 dX12_qCode_15 (by decide) ?_
  refine lv_iadd C.1 C.2.1 dX12_qCode_16 ?_
  obtain ⟨S2, e2, h⟩ := le1_ok h
  refine hr_putI C cf12 fM_352 hR aM_0 e2 dX12_qCode_17 (fun H locs hR => ?_)
  exact ho_vret C hR h dX12_qCode_20
theorem dX12_qDrops_0 : decode cX12_qDrops 0 = .ok (.aload_n 0, 1) := by decide +kernel
theorem dX12_qDrops_1 : decode cX12_qDrops 1 = .ok (.dup, 1) := by decide +kernel
theorem dX12_qDrops_2 : decode cX12_qDrops 2 = .ok (.getfield 355, 3) := by decide +kernel
theorem dX12_qDrops_5 : decode cX12_qDrops 5 = .ok (.iconst 1, 1) := by decide +kernel
theorem dX12_qDrops_6 : decode cX12_qDrops 6 = .ok (.isub, 1) := by decide +kernel
theorem dX12_qDrops_7 : decode cX12_qDrops 7 = .ok (.putfield 355, 3) := by decide +kernel
theorem dX12_qDrops_10 : decode cX12_qDrops 10 = .ok (.aload_n 0, 1) := by decide +kernel
theorem dX12_qDrops_11 : decode cX12_qDrops 11 = .ok (.aload_n 0, 1) := by decide +kernel
theorem dX12_qDrops_12 : decode cX12_qDrops 12 = .ok (.getfield 252, 3) := by decide +kernel
theorem dX12_qDrops_15 : decode cX12_qDrops 15 = .ok (.aload_n 0, 1) := by decide +kernel
theorem dX12_qDrops_16 : decode cX12_qDrops 16 = .ok (.getfield 355, 3) := by decide +kernel
theorem dX12_qDrops_19 : decode cX12_qDrops 19 = .ok (.iaload, 1) := by decide +kernel
theorem dX12_qDrops_20 : decode cX12_qDrops 20 = .ok (.invokevirtual 607, 3) := by decide +kernel
theorem dX12_qDrops_23 : decode cX12_qDrops 23 = .ok (.return_, 1) := by decide +kernel
def f_X12_qDrops (S : Hp) : Option Hp :=
  le1 (ho_sI S 0 102 ((S.1 0 102) - (1 : Int32))) (fun S1 => ldI S1 102 1700 (S1.1 0 102) (fun v2 => ob (f_X12_qCode v2 S1) (fun S3 => some S3)))
set_option maxHeartbeats 4000000 in
set_option maxRecDepth 100000 in
theorem c_X12_qDrops (l : Launch) (E : Ev) (S : Hp) (r : Hp) (h : f_X12_qDrops S = some r) : ho_M l yM E yX12_qDrops cX12_qDrops 1 none 1 [.ref (E.2.1 0)] S (none, r) := by
  refine ho_in (by decide) (Nat.le_of_ble_eq_true rfl) ?_
  intro p e s m args below meth c C hR ls hl
  have C : ho_I p s m args meth c RX12 cX12_qDrops 1 none := C
  have hl : lv_has ls 1 [(0, .ref (E.2.1 0))] := hl
  unfold f_X12_qDrops at h
  refine lv_aload_n C.1 C.2.1 dX12_qDrops_0 rfl (lv_at hl 0 rfl) ?_
  refine lv_dup C.1 C.2.1 dX12_qDrops_1 rfl ?_
  refine ho_getI C cf12 fM_355 hR aM_0 dX12_qDrops_2 ?_
  refine lv_iconst (v := (1 : Int32)) C.1 C.2.1 dX12_qDrops_5 (by decide) ?_
  refine lv_isub C.1 C.2.1 dX12_qDrops_6 ?_
  obtain ⟨S1, e1, h⟩ := le1_ok h
  refine hr_putI C cf12 fM_355 hR aM_0 e1 dX12_qDrops_7 (fun H locs hR => ?_)
  refine lv_aload_n C.1 C.2.1 dX12_qDrops_10 rfl (lv_at hl 0 rfl) ?_
  refine lv_aload_n C.1 C.2.1 dX12_qDrops_11 rfl (lv_at hl 0 rfl) ?_
  refine ho_getR (a' := 102) C cf12 fM_252 hR aM_0 rfl dX12_qDrops_12 ?_
  refine lv_aload_n C.1 C.2.1 dX12_qDrops_15 rfl (lv_at hl 0 rfl) ?_
  refine ho_getI C cf12 fM_355 hR aM_0 dX12_qDrops_16 ?_
  obtain ⟨v2, e2, hi2, h⟩ := ldI_ok h
  refine hr_ild C hR aM_102 hi2 e2 dX12_qDrops_19 ?_
  obtain ⟨S3, h3, h⟩ := ob_ok h
  refine hr_Vv (S' := S3) (As := [.int v2]) (rest := []) C cf12 (c_X12_qCode l E v2 _ _ h3) yv_X12_qCode lk_RX12_607 rfl aM_0 rfl rfl hl.1 (Nat.le_of_ble_eq_true rfl) (by decide) (by decide) hR (ho_A hR) dX12_qDrops_20 (fun H locs hR => ?_)
  exact ho_vret C hR h dX12_qDrops_23
theorem dX12_qEndsPart_0 : decode cX12_qEndsPart 0 = .ok (.aload_n 0, 1) := by decide +kernel
theorem dX12_qEndsPart_1 : decode cX12_qEndsPart 1 = .ok (.getfield 264, 3) := by decide +kernel
theorem dX12_qEndsPart_4 : decode cX12_qEndsPart 4 = .ok (.ifCond .ne 47, 3) := by decide +kernel
theorem dX12_qEndsPart_7 : decode cX12_qEndsPart 7 = .ok (.aload_n 0, 1) := by decide +kernel
theorem dX12_qEndsPart_8 : decode cX12_qEndsPart 8 = .ok (.getfield 355, 3) := by decide +kernel
theorem dX12_qEndsPart_11 : decode cX12_qEndsPart 11 = .ok (.aload_n 0, 1) := by decide +kernel
theorem dX12_qEndsPart_12 : decode cX12_qEndsPart 12 = .ok (.getfield 361, 3) := by decide +kernel
theorem dX12_qEndsPart_15 : decode cX12_qEndsPart 15 = .ok (.if_icmp .le 36, 3) := by decide +kernel
theorem dX12_qEndsPart_18 : decode cX12_qEndsPart 18 = .ok (.aload_n 0, 1) := by decide +kernel
theorem dX12_qEndsPart_19 : decode cX12_qEndsPart 19 = .ok (.getfield 252, 3) := by decide +kernel
theorem dX12_qEndsPart_22 : decode cX12_qEndsPart 22 = .ok (.aload_n 0, 1) := by decide +kernel
theorem dX12_qEndsPart_23 : decode cX12_qEndsPart 23 = .ok (.getfield 355, 3) := by decide +kernel
theorem dX12_qEndsPart_26 : decode cX12_qEndsPart 26 = .ok (.iconst 1, 1) := by decide +kernel
theorem dX12_qEndsPart_27 : decode cX12_qEndsPart 27 = .ok (.isub, 1) := by decide +kernel
theorem dX12_qEndsPart_28 : decode cX12_qEndsPart 28 = .ok (.iaload, 1) := by decide +kernel
theorem dX12_qEndsPart_29 : decode cX12_qEndsPart 29 = .ok (.bipush 60, 2) := by decide +kernel
theorem dX12_qEndsPart_31 : decode cX12_qEndsPart 31 = .ok (.if_icmp .lt 20, 3) := by decide +kernel
theorem dX12_qEndsPart_34 : decode cX12_qEndsPart 34 = .ok (.aload_n 0, 1) := by decide +kernel
theorem dX12_qEndsPart_35 : decode cX12_qEndsPart 35 = .ok (.dup, 1) := by decide +kernel
theorem dX12_qEndsPart_36 : decode cX12_qEndsPart 36 = .ok (.getfield 358, 3) := by decide +kernel
theorem dX12_qEndsPart_39 : decode cX12_qEndsPart 39 = .ok (.iconst 1, 1) := by decide +kernel
theorem dX12_qEndsPart_40 : decode cX12_qEndsPart 40 = .ok (.isub, 1) := by decide +kernel
theorem dX12_qEndsPart_41 : decode cX12_qEndsPart 41 = .ok (.putfield 358, 3) := by decide +kernel
theorem dX12_qEndsPart_44 : decode cX12_qEndsPart 44 = .ok (.aload_n 0, 1) := by decide +kernel
theorem dX12_qEndsPart_45 : decode cX12_qEndsPart 45 = .ok (.invokevirtual 613, 3) := by decide +kernel
theorem dX12_qEndsPart_48 : decode cX12_qEndsPart 48 = .ok (.goto (-48), 3) := by decide +kernel
theorem dX12_qEndsPart_51 : decode cX12_qEndsPart 51 = .ok (.return_, 1) := by decide +kernel
def f_X12_qEndsPart_0 : Nat → Hp → Option Hp
  | 0, _ => none
  | k + 1, S => if (S.1 0 5) = 0 then if (S.1 0 102) ≤ (S.1 0 104) then some S else ldI S 102 1700 ((S.1 0 102) - (1 : Int32)) (fun v1 => if v1 < (60 : Int32) then some S else le1 (ho_sI S 0 103 ((S.1 0 103) - (1 : Int32))) (fun S2 => ob (f_X12_qDrops S2) (fun S3 => f_X12_qEndsPart_0 k S3))) else some S
set_option maxHeartbeats 4000000 in
set_option maxRecDepth 100000 in
theorem w_X12_qEndsPart_0 {p : Program} {l : Launch} {e : Env} {s : State} {m : MethodId} {args : Array Value} {below : List Frame} {meth : Method} {c : Code} {E : Ev} {S0 : Hp} {r : Hp} (C : ho_I p s m args meth c RX12 cX12_qEndsPart 1 none) :
    ∀ (k : Nat) (S : Hp), f_X12_qEndsPart_0 k S = some r → ho_G p l e s m args below meth c yM E S0 2 1 (none, r) 0 [(0, .ref (E.2.1 0))] [] S := by
  intro k
  induction k with
  | zero =>
    intro S h
    exact absurd (show (none : Option Hp) = some r from h) (by simp)
  | succ k ih =>
    intro S h H locs ls hR hl
    rw [f_X12_qEndsPart_0] at h
    refine lv_aload_n C.1 C.2.1 dX12_qEndsPart_0 rfl (lv_at hl 0 rfl) ?_
    refine ho_getI C cf12 fM_264 hR aM_0 dX12_qEndsPart_1 ?_
    refine lv_if_ne (tgt := 51) C.1 C.2.1 dX12_qEndsPart_4 (by decide) (fun hc => ?_) (fun hc => ?_)
    · replace h := if_f h hc
      exact ho_vret C hR h dX12_qEndsPart_51
    · replace h := if_t h hc
      refine lv_aload_n C.1 C.2.1 dX12_qEndsPart_7 rfl (lv_at hl 0 rfl) ?_
      refine ho_getI C cf12 fM_355 hR aM_0 dX12_qEndsPart_8 ?_
      refine lv_aload_n C.1 C.2.1 dX12_qEndsPart_11 rfl (lv_at hl 0 rfl) ?_
      refine ho_getI C cf12 fM_361 hR aM_0 dX12_qEndsPart_12 ?_
      refine lv_icmp_le (tgt := 51) C.1 C.2.1 dX12_qEndsPart_15 (by decide) (fun hc => ?_) (fun hc => ?_)
      · replace h := if_t h hc
        exact ho_vret C hR h dX12_qEndsPart_51
      · replace h := if_f h hc
        refine lv_aload_n C.1 C.2.1 dX12_qEndsPart_18 rfl (lv_at hl 0 rfl) ?_
        refine ho_getR (a' := 102) C cf12 fM_252 hR aM_0 rfl dX12_qEndsPart_19 ?_
        refine lv_aload_n C.1 C.2.1 dX12_qEndsPart_22 rfl (lv_at hl 0 rfl) ?_
        refine ho_getI C cf12 fM_355 hR aM_0 dX12_qEndsPart_23 ?_
        refine lv_iconst (v := (1 : Int32)) C.1 C.2.1 dX12_qEndsPart_26 (by decide) ?_
        refine lv_isub C.1 C.2.1 dX12_qEndsPart_27 ?_
        obtain ⟨v1, e1, hi1, h⟩ := ldI_ok h
        refine hr_ild C hR aM_102 hi1 e1 dX12_qEndsPart_28 ?_
        refine lv_bipush (v := (60 : Int32)) C.1 C.2.1 dX12_qEndsPart_29 (by decide) ?_
        refine lv_icmp_lt (tgt := 51) C.1 C.2.1 dX12_qEndsPart_31 (by decide) (fun hc => ?_) (fun hc => ?_)
        · replace h := if_t h hc
          exact ho_vret C hR h dX12_qEndsPart_51
        · replace h := if_f h hc
          refine lv_aload_n C.1 C.2.1 dX12_qEndsPart_34 rfl (lv_at hl 0 rfl) ?_
          refine lv_dup C.1 C.2.1 dX12_qEndsPart_35 rfl ?_
          refine ho_getI C cf12 fM_358 hR aM_0 dX12_qEndsPart_36 ?_
          refine lv_iconst (v := (1 : Int32)) C.1 C.2.1 dX12_qEndsPart_39 (by decide) ?_
          refine lv_isub C.1 C.2.1 dX12_qEndsPart_40 ?_
          obtain ⟨S2, e2, h⟩ := le1_ok h
          refine hr_putI C cf12 fM_358 hR aM_0 e2 dX12_qEndsPart_41 (fun H locs hR => ?_)
          refine lv_aload_n C.1 C.2.1 dX12_qEndsPart_44 rfl (lv_at hl 0 rfl) ?_
          obtain ⟨S3, h3, h⟩ := ob_ok h
          refine hr_Vv (S' := S3) (As := []) (rest := []) C cf12 (c_X12_qDrops l E _ _ h3) yv_X12_qDrops lk_RX12_613 rfl aM_0 rfl rfl hl.1 (Nat.le_of_ble_eq_true rfl) (by decide) (by decide) hR (ho_A hR) dX12_qEndsPart_45 (fun H locs hR => ?_)
          refine lv_goto (tgt := 0) C.1 C.2.1 dX12_qEndsPart_48 (by decide) ?_
          exact ih S3 h _ _ _ hR (lv_sub hl [0] rfl)
def f_X12_qEndsPart (S : Hp) : Option Hp :=
  f_X12_qEndsPart_0 5000 S
set_option maxHeartbeats 4000000 in
set_option maxRecDepth 100000 in
theorem c_X12_qEndsPart (l : Launch) (E : Ev) (S : Hp) (r : Hp) (h : f_X12_qEndsPart S = some r) : ho_M l yM E yX12_qEndsPart cX12_qEndsPart 1 none 2 [.ref (E.2.1 0)] S (none, r) := by
  refine ho_in (by decide) (Nat.le_of_ble_eq_true rfl) ?_
  intro p e s m args below meth c C hR ls hl
  have C : ho_I p s m args meth c RX12 cX12_qEndsPart 1 none := C
  have hl : lv_has ls 1 [(0, .ref (E.2.1 0))] := hl
  unfold f_X12_qEndsPart at h
  exact w_X12_qEndsPart_0 C 5000 S h _ _ _ hR (lv_sub hl [0] rfl)
theorem dX12_qPartTold_0 : decode cX12_qPartTold 0 = .ok (.iconst 1, 1) := by decide +kernel
theorem dX12_qPartTold_1 : decode cX12_qPartTold 1 = .ok (.istore_n 1, 1) := by decide +kernel
theorem dX12_qPartTold_2 : decode cX12_qPartTold 2 = .ok (.iload_n 1, 1) := by decide +kernel
theorem dX12_qPartTold_3 : decode cX12_qPartTold 3 = .ok (.ifCond .eq 183, 3) := by decide +kernel
theorem dX12_qPartTold_6 : decode cX12_qPartTold 6 = .ok (.aload_n 0, 1) := by decide +kernel
theorem dX12_qPartTold_7 : decode cX12_qPartTold 7 = .ok (.getfield 264, 3) := by decide +kernel
theorem dX12_qPartTold_10 : decode cX12_qPartTold 10 = .ok (.ifCond .ne 176, 3) := by decide +kernel
theorem dX12_qPartTold_13 : decode cX12_qPartTold 13 = .ok (.aload_n 0, 1) := by decide +kernel
theorem dX12_qPartTold_14 : decode cX12_qPartTold 14 = .ok (.invokevirtual 276, 3) := by decide +kernel
theorem dX12_qPartTold_17 : decode cX12_qPartTold 17 = .ok (.istore_n 2, 1) := by decide +kernel
theorem dX12_qPartTold_18 : decode cX12_qPartTold 18 = .ok (.aload_n 0, 1) := by decide +kernel
theorem dX12_qPartTold_19 : decode cX12_qPartTold 19 = .ok (.bipush 11, 2) := by decide +kernel
theorem dX12_qPartTold_21 : decode cX12_qPartTold 21 = .ok (.bipush 12, 2) := by decide +kernel
theorem dX12_qPartTold_23 : decode cX12_qPartTold 23 = .ok (.invokevirtual 622, 3) := by decide +kernel
theorem dX12_qPartTold_26 : decode cX12_qPartTold 26 = .ok (.istore_n 3, 1) := by decide +kernel
theorem dX12_qPartTold_27 : decode cX12_qPartTold 27 = .ok (.iload_n 2, 1) := by decide +kernel
theorem dX12_qPartTold_28 : decode cX12_qPartTold 28 = .ok (.bipush 40, 2) := by decide +kernel
theorem dX12_qPartTold_30 : decode cX12_qPartTold 30 = .ok (.if_icmp .ne 26, 3) := by decide +kernel
theorem dX12_qPartTold_33 : decode cX12_qPartTold 33 = .ok (.aload_n 0, 1) := by decide +kernel
theorem dX12_qPartTold_34 : decode cX12_qPartTold 34 = .ok (.bipush 20, 2) := by decide +kernel
theorem dX12_qPartTold_36 : decode cX12_qPartTold 36 = .ok (.aload_n 0, 1) := by decide +kernel
theorem dX12_qPartTold_37 : decode cX12_qPartTold 37 = .ok (.getfield 270, 3) := by decide +kernel
theorem dX12_qPartTold_40 : decode cX12_qPartTold 40 = .ok (.invokevirtual 625, 3) := by decide +kernel
theorem dX12_qPartTold_43 : decode cX12_qPartTold 43 = .ok (.aload_n 0, 1) := by decide +kernel
theorem dX12_qPartTold_44 : decode cX12_qPartTold 44 = .ok (.dup, 1) := by decide +kernel
theorem dX12_qPartTold_45 : decode cX12_qPartTold 45 = .ok (.getfield 270, 3) := by decide +kernel
theorem dX12_qPartTold_48 : decode cX12_qPartTold 48 = .ok (.iconst 1, 1) := by decide +kernel
theorem dX12_qPartTold_49 : decode cX12_qPartTold 49 = .ok (.iadd, 1) := by decide +kernel
theorem dX12_qPartTold_50 : decode cX12_qPartTold 50 = .ok (.putfield 270, 3) := by decide +kernel
theorem dX12_qPartTold_53 : decode cX12_qPartTold 53 = .ok (.goto 130, 3) := by decide +kernel
theorem dX12_qPartTold_56 : decode cX12_qPartTold 56 = .ok (.aload_n 0, 1) := by decide +kernel
theorem dX12_qPartTold_57 : decode cX12_qPartTold 57 = .ok (.aload_n 0, 1) := by decide +kernel
theorem dX12_qPartTold_58 : decode cX12_qPartTold 58 = .ok (.getfield 207, 3) := by decide +kernel
theorem dX12_qPartTold_61 : decode cX12_qPartTold 61 = .ok (.invokevirtual 287, 3) := by decide +kernel
theorem dX12_qPartTold_64 : decode cX12_qPartTold 64 = .ok (.ifCond .ne 14, 3) := by decide +kernel
theorem dX12_qPartTold_67 : decode cX12_qPartTold 67 = .ok (.aload_n 0, 1) := by decide +kernel
theorem dX12_qPartTold_68 : decode cX12_qPartTold 68 = .ok (.aload_n 0, 1) := by decide +kernel
theorem dX12_qPartTold_69 : decode cX12_qPartTold 69 = .ok (.getfield 210, 3) := by decide +kernel
theorem dX12_qPartTold_72 : decode cX12_qPartTold 72 = .ok (.invokevirtual 287, 3) := by decide +kernel
theorem dX12_qPartTold_75 : decode cX12_qPartTold 75 = .ok (.ifCond .eq 78, 3) := by decide +kernel
theorem dX12_qPartTold_78 : decode cX12_qPartTold 78 = .ok (.aload_n 0, 1) := by decide +kernel
theorem dX12_qPartTold_79 : decode cX12_qPartTold 79 = .ok (.aload_n 0, 1) := by decide +kernel
theorem dX12_qPartTold_80 : decode cX12_qPartTold 80 = .ok (.getfield 207, 3) := by decide +kernel
theorem dX12_qPartTold_83 : decode cX12_qPartTold 83 = .ok (.invokevirtual 291, 3) := by decide +kernel
theorem dX12_qPartTold_86 : decode cX12_qPartTold 86 = .ok (.istore 4, 2) := by decide +kernel
theorem dX12_qPartTold_88 : decode cX12_qPartTold 88 = .ok (.iload 4, 2) := by decide +kernel
theorem dX12_qPartTold_90 : decode cX12_qPartTold 90 = .ok (.ifCond .ne 11, 3) := by decide +kernel
theorem dX12_qPartTold_93 : decode cX12_qPartTold 93 = .ok (.aload_n 0, 1) := by decide +kernel
theorem dX12_qPartTold_94 : decode cX12_qPartTold 94 = .ok (.aload_n 0, 1) := by decide +kernel
theorem dX12_qPartTold_95 : decode cX12_qPartTold 95 = .ok (.getfield 210, 3) := by decide +kernel
theorem dX12_qPartTold_98 : decode cX12_qPartTold 98 = .ok (.invokevirtual 330, 3) := by decide +kernel
theorem dX12_qPartTold_101 : decode cX12_qPartTold 101 = .ok (.aload_n 0, 1) := by decide +kernel
theorem dX12_qPartTold_102 : decode cX12_qPartTold 102 = .ok (.invokevirtual 276, 3) := by decide +kernel
theorem dX12_qPartTold_105 : decode cX12_qPartTold 105 = .ok (.bipush 40, 2) := by decide +kernel
theorem dX12_qPartTold_107 : decode cX12_qPartTold 107 = .ok (.if_icmp .ne 10, 3) := by decide +kernel
theorem dX12_qPartTold_110 : decode cX12_qPartTold 110 = .ok (.aload_n 0, 1) := by decide +kernel
theorem dX12_qPartTold_111 : decode cX12_qPartTold 111 = .ok (.getfield 270, 3) := by decide +kernel
theorem dX12_qPartTold_114 : decode cX12_qPartTold 114 = .ok (.goto 4, 3) := by decide +kernel
theorem dX12_qPartTold_117 : decode cX12_qPartTold 117 = .ok (.iconst (-1), 1) := by decide +kernel
theorem dX12_qPartTold_118 : decode cX12_qPartTold 118 = .ok (.istore 5, 2) := by decide +kernel
theorem dX12_qPartTold_120 : decode cX12_qPartTold 120 = .ok (.iload 5, 2) := by decide +kernel
theorem dX12_qPartTold_122 : decode cX12_qPartTold 122 = .ok (.iconst (-1), 1) := by decide +kernel
theorem dX12_qPartTold_123 : decode cX12_qPartTold 123 = .ok (.if_icmp .eq 21, 3) := by decide +kernel
theorem dX12_qPartTold_126 : decode cX12_qPartTold 126 = .ok (.aload_n 0, 1) := by decide +kernel
theorem dX12_qPartTold_127 : decode cX12_qPartTold 127 = .ok (.iload 4, 2) := by decide +kernel
theorem dX12_qPartTold_129 : decode cX12_qPartTold 129 = .ok (.ifCond .eq 8, 3) := by decide +kernel
theorem dX12_qPartTold_132 : decode cX12_qPartTold 132 = .ok (.bipush 21, 2) := by decide +kernel
theorem dX12_qPartTold_134 : decode cX12_qPartTold 134 = .ok (.goto 5, 3) := by decide +kernel
theorem dX12_qPartTold_137 : decode cX12_qPartTold 137 = .ok (.bipush 22, 2) := by decide +kernel
theorem dX12_qPartTold_139 : decode cX12_qPartTold 139 = .ok (.iload 5, 2) := by decide +kernel
theorem dX12_qPartTold_141 : decode cX12_qPartTold 141 = .ok (.invokevirtual 625, 3) := by decide +kernel
theorem dX12_qPartTold_144 : decode cX12_qPartTold 144 = .ok (.aload_n 0, 1) := by decide +kernel
theorem dX12_qPartTold_145 : decode cX12_qPartTold 145 = .ok (.bipush 40, 2) := by decide +kernel
theorem dX12_qPartTold_147 : decode cX12_qPartTold 147 = .ok (.invokevirtual 338, 3) := by decide +kernel
theorem dX12_qPartTold_150 : decode cX12_qPartTold 150 = .ok (.goto 33, 3) := by decide +kernel
theorem dX12_qPartTold_153 : decode cX12_qPartTold 153 = .ok (.iload_n 3, 1) := by decide +kernel
theorem dX12_qPartTold_154 : decode cX12_qPartTold 154 = .ok (.iconst (-1), 1) := by decide +kernel
theorem dX12_qPartTold_155 : decode cX12_qPartTold 155 = .ok (.if_icmp .eq 26, 3) := by decide +kernel
theorem dX12_qPartTold_158 : decode cX12_qPartTold 158 = .ok (.aload_n 0, 1) := by decide +kernel
theorem dX12_qPartTold_159 : decode cX12_qPartTold 159 = .ok (.bipush 60, 2) := by decide +kernel
theorem dX12_qPartTold_161 : decode cX12_qPartTold 161 = .ok (.iload_n 3, 1) := by decide +kernel
theorem dX12_qPartTold_162 : decode cX12_qPartTold 162 = .ok (.iadd, 1) := by decide +kernel
theorem dX12_qPartTold_163 : decode cX12_qPartTold 163 = .ok (.bipush 11, 2) := by decide +kernel
theorem dX12_qPartTold_165 : decode cX12_qPartTold 165 = .ok (.isub, 1) := by decide +kernel
theorem dX12_qPartTold_166 : decode cX12_qPartTold 166 = .ok (.aload_n 0, 1) := by decide +kernel
theorem dX12_qPartTold_167 : decode cX12_qPartTold 167 = .ok (.getfield 270, 3) := by decide +kernel
theorem dX12_qPartTold_170 : decode cX12_qPartTold 170 = .ok (.invokevirtual 625, 3) := by decide +kernel
theorem dX12_qPartTold_173 : decode cX12_qPartTold 173 = .ok (.aload_n 0, 1) := by decide +kernel
theorem dX12_qPartTold_174 : decode cX12_qPartTold 174 = .ok (.iload_n 3, 1) := by decide +kernel
theorem dX12_qPartTold_175 : decode cX12_qPartTold 175 = .ok (.invokevirtual 628, 3) := by decide +kernel
theorem dX12_qPartTold_178 : decode cX12_qPartTold 178 = .ok (.goto 5, 3) := by decide +kernel
theorem dX12_qPartTold_181 : decode cX12_qPartTold 181 = .ok (.iconst 0, 1) := by decide +kernel
theorem dX12_qPartTold_182 : decode cX12_qPartTold 182 = .ok (.istore_n 1, 1) := by decide +kernel
theorem dX12_qPartTold_183 : decode cX12_qPartTold 183 = .ok (.goto (-181), 3) := by decide +kernel
theorem dX12_qPartTold_186 : decode cX12_qPartTold 186 = .ok (.aload_n 0, 1) := by decide +kernel
theorem dX12_qPartTold_187 : decode cX12_qPartTold 187 = .ok (.getfield 264, 3) := by decide +kernel
theorem dX12_qPartTold_190 : decode cX12_qPartTold 190 = .ok (.ifCond .eq 4, 3) := by decide +kernel
theorem dX12_qPartTold_193 : decode cX12_qPartTold 193 = .ok (.return_, 1) := by decide +kernel
theorem dX12_qPartTold_194 : decode cX12_qPartTold 194 = .ok (.aload_n 0, 1) := by decide +kernel
theorem dX12_qPartTold_195 : decode cX12_qPartTold 195 = .ok (.iconst 0, 1) := by decide +kernel
theorem dX12_qPartTold_196 : decode cX12_qPartTold 196 = .ok (.bipush 11, 2) := by decide +kernel
theorem dX12_qPartTold_198 : decode cX12_qPartTold 198 = .ok (.invokevirtual 622, 3) := by decide +kernel
theorem dX12_qPartTold_201 : decode cX12_qPartTold 201 = .ok (.istore_n 2, 1) := by decide +kernel
theorem dX12_qPartTold_202 : decode cX12_qPartTold 202 = .ok (.iload_n 2, 1) := by decide +kernel
theorem dX12_qPartTold_203 : decode cX12_qPartTold 203 = .ok (.iconst (-1), 1) := by decide +kernel
theorem dX12_qPartTold_204 : decode cX12_qPartTold 204 = .ok (.if_icmp .eq 8, 3) := by decide +kernel
theorem dX12_qPartTold_207 : decode cX12_qPartTold 207 = .ok (.aload_n 0, 1) := by decide +kernel
theorem dX12_qPartTold_208 : decode cX12_qPartTold 208 = .ok (.iload_n 2, 1) := by decide +kernel
theorem dX12_qPartTold_209 : decode cX12_qPartTold 209 = .ok (.invokevirtual 628, 3) := by decide +kernel
theorem dX12_qPartTold_212 : decode cX12_qPartTold 212 = .ok (.aload_n 0, 1) := by decide +kernel
theorem dX12_qPartTold_213 : decode cX12_qPartTold 213 = .ok (.iload_n 2, 1) := by decide +kernel
theorem dX12_qPartTold_214 : decode cX12_qPartTold 214 = .ok (.iconst (-1), 1) := by decide +kernel
theorem dX12_qPartTold_215 : decode cX12_qPartTold 215 = .ok (.if_icmp .eq 10, 3) := by decide +kernel
theorem dX12_qPartTold_218 : decode cX12_qPartTold 218 = .ok (.bipush 40, 2) := by decide +kernel
theorem dX12_qPartTold_220 : decode cX12_qPartTold 220 = .ok (.iload_n 2, 1) := by decide +kernel
theorem dX12_qPartTold_221 : decode cX12_qPartTold 221 = .ok (.iadd, 1) := by decide +kernel
theorem dX12_qPartTold_222 : decode cX12_qPartTold 222 = .ok (.goto 15, 3) := by decide +kernel
theorem dX12_qPartTold_225 : decode cX12_qPartTold 225 = .ok (.sipush 1000, 3) := by decide +kernel
theorem dX12_qPartTold_228 : decode cX12_qPartTold 228 = .ok (.aload_n 0, 1) := by decide +kernel
theorem dX12_qPartTold_229 : decode cX12_qPartTold 229 = .ok (.iconst 0, 1) := by decide +kernel
theorem dX12_qPartTold_230 : decode cX12_qPartTold 230 = .ok (.sipush 9999, 3) := by decide +kernel
theorem dX12_qPartTold_233 : decode cX12_qPartTold 233 = .ok (.invokevirtual 334, 3) := by decide +kernel
theorem dX12_qPartTold_236 : decode cX12_qPartTold 236 = .ok (.iadd, 1) := by decide +kernel
theorem dX12_qPartTold_237 : decode cX12_qPartTold 237 = .ok (.invokevirtual 607, 3) := by decide +kernel
theorem dX12_qPartTold_240 : decode cX12_qPartTold 240 = .ok (.aload_n 0, 1) := by decide +kernel
theorem dX12_qPartTold_241 : decode cX12_qPartTold 241 = .ok (.invokevirtual 631, 3) := by decide +kernel
theorem dX12_qPartTold_244 : decode cX12_qPartTold 244 = .ok (.return_, 1) := by decide +kernel
def f_X12_qPartTold_237 (z1 : Int32) (S : Hp) : Option Hp :=
  ob (f_X12_qCode z1 S) (fun S1 => ob (f_X12_qEndsPart S1) (fun S2 => some S2))
set_option maxHeartbeats 4000000 in
set_option maxRecDepth 100000 in
theorem w_X12_qPartTold_237 {p : Program} {l : Launch} {e : Env} {s : State} {m : MethodId} {args : Array Value} {below : List Frame} {meth : Method} {c : Code} {E : Ev} {S0 : Hp} {r : Hp} (C : ho_I p s m args meth c RX12 cX12_qPartTold 6 none) :
    ∀ (z1 : Int32) (S : Hp), f_X12_qPartTold_237 z1 S = some r → ho_G p l e s m args below meth c yM E S0 5 6 (none, r) 237 [(0, .ref (E.2.1 0))] [.int z1, .ref (E.2.1 0)] S := by
  intro z1 S h H locs ls hR hl
  unfold f_X12_qPartTold_237 at h
  obtain ⟨S1, h1, h⟩ := ob_ok h
  refine hr_Vv (S' := S1) (As := [.int z1]) (rest := []) C cf12 (c_X12_qCode l E z1 _ _ h1) yv_X12_qCode lk_RX12_607 rfl aM_0 rfl rfl hl.1 (Nat.le_of_ble_eq_true rfl) (by decide) (by decide) hR (ho_A hR) dX12_qPartTold_237 (fun H locs hR => ?_)
  refine lv_aload_n C.1 C.2.1 dX12_qPartTold_240 rfl (lv_at hl 0 rfl) ?_
  obtain ⟨S2, h2, h⟩ := ob_ok h
  refine hr_Vv (S' := S2) (As := []) (rest := []) C cf12 (c_X12_qEndsPart l E _ _ h2) yv_X12_qEndsPart lk_RX12_631 rfl aM_0 rfl rfl hl.1 (Nat.le_of_ble_eq_true rfl) (by decide) (by decide) hR (ho_A hR) dX12_qPartTold_241 (fun H locs hR => ?_)
  exact ho_vret C hR h dX12_qPartTold_244
def f_X12_qPartTold_212 (x2 : Int32) (S : Hp) : Option Hp :=
  if x2 = (-1 : Int32) then ob2 (f_X12_number (0 : Int32) (9999 : Int32) S) (fun r1 S1 => f_X12_qPartTold_237 ((1000 : Int32) + r1) S1) else f_X12_qPartTold_237 ((40 : Int32) + x2) S
set_option maxHeartbeats 4000000 in
set_option maxRecDepth 100000 in
theorem w_X12_qPartTold_212 {p : Program} {l : Launch} {e : Env} {s : State} {m : MethodId} {args : Array Value} {below : List Frame} {meth : Method} {c : Code} {E : Ev} {S0 : Hp} {r : Hp} (C : ho_I p s m args meth c RX12 cX12_qPartTold 6 none) :
    ∀ (x2 : Int32) (S : Hp), f_X12_qPartTold_212 x2 S = some r → ho_G p l e s m args below meth c yM E S0 5 6 (none, r) 212 [(0, .ref (E.2.1 0)), (2, .int x2)] [] S := by
  intro x2 S h H locs ls hR hl
  unfold f_X12_qPartTold_212 at h
  refine lv_aload_n C.1 C.2.1 dX12_qPartTold_212 rfl (lv_at hl 0 rfl) ?_
  refine lv_iload_n C.1 C.2.1 dX12_qPartTold_213 rfl (lv_at hl 1 rfl) ?_
  refine lv_iconst (v := (-1 : Int32)) C.1 C.2.1 dX12_qPartTold_214 (by decide) ?_
  refine lv_icmp_eq (tgt := 225) C.1 C.2.1 dX12_qPartTold_215 (by decide) (fun hc => ?_) (fun hc => ?_)
  · replace h := if_t h hc
    refine lv_sipush (v := (1000 : Int32)) C.1 C.2.1 dX12_qPartTold_225 (by decide) ?_
    refine lv_aload_n C.1 C.2.1 dX12_qPartTold_228 rfl (lv_at hl 0 rfl) ?_
    refine lv_iconst (v := (0 : Int32)) C.1 C.2.1 dX12_qPartTold_229 (by decide) ?_
    refine lv_sipush (v := (9999 : Int32)) C.1 C.2.1 dX12_qPartTold_230 (by decide) ?_
    obtain ⟨r1, S1, h1, h⟩ := ob2_ok h
    refine hr_Vi (v := r1) (S' := S1) (As := [.int (0 : Int32), .int (9999 : Int32)]) (rest := [.int (1000 : Int32), .ref (E.2.1 0)]) C cf12 (c_X12_number l E (0 : Int32) (9999 : Int32) _ _ h1) yv_X12_number lk_RX12_334 rfl aM_0 rfl rfl hl.1 (Nat.le_of_ble_eq_true rfl) (by decide) (by decide) hR (ho_A hR) dX12_qPartTold_233 (fun H locs hR => ?_)
    refine lv_iadd C.1 C.2.1 dX12_qPartTold_236 ?_
    exact w_X12_qPartTold_237 C ((1000 : Int32) + r1) S1 h _ _ _ hR (lv_sub hl [0] rfl)
  · replace h := if_f h hc
    refine lv_bipush (v := (40 : Int32)) C.1 C.2.1 dX12_qPartTold_218 (by decide) ?_
    refine lv_iload_n C.1 C.2.1 dX12_qPartTold_220 rfl (lv_at hl 1 rfl) ?_
    refine lv_iadd C.1 C.2.1 dX12_qPartTold_221 ?_
    refine lv_goto (tgt := 237) C.1 C.2.1 dX12_qPartTold_222 (by decide) ?_
    exact w_X12_qPartTold_237 C ((40 : Int32) + x2) S h _ _ _ hR (lv_sub hl [0] rfl)
def f_X12_qPartTold_186 (S : Hp) : Option Hp :=
  if (S.1 0 5) = 0 then ob2 (f_X12_qWordOf (0 : Int32) (11 : Int32) S) (fun r1 S1 => if r1 = (-1 : Int32) then f_X12_qPartTold_212 r1 S1 else ob (f_X12_qAsksWord r1 S1) (fun S2 => f_X12_qPartTold_212 r1 S2)) else some S
set_option maxHeartbeats 4000000 in
set_option maxRecDepth 100000 in
theorem w_X12_qPartTold_186 {p : Program} {l : Launch} {e : Env} {s : State} {m : MethodId} {args : Array Value} {below : List Frame} {meth : Method} {c : Code} {E : Ev} {S0 : Hp} {r : Hp} (C : ho_I p s m args meth c RX12 cX12_qPartTold 6 none) :
    ∀ (S : Hp), f_X12_qPartTold_186 S = some r → ho_G p l e s m args below meth c yM E S0 5 6 (none, r) 186 [(0, .ref (E.2.1 0))] [] S := by
  intro S h H locs ls hR hl
  unfold f_X12_qPartTold_186 at h
  refine lv_aload_n C.1 C.2.1 dX12_qPartTold_186 rfl (lv_at hl 0 rfl) ?_
  refine ho_getI C cf12 fM_264 hR aM_0 dX12_qPartTold_187 ?_
  refine lv_if_eq (tgt := 194) C.1 C.2.1 dX12_qPartTold_190 (by decide) (fun hc => ?_) (fun hc => ?_)
  · replace h := if_t h hc
    refine lv_aload_n C.1 C.2.1 dX12_qPartTold_194 rfl (lv_at hl 0 rfl) ?_
    refine lv_iconst (v := (0 : Int32)) C.1 C.2.1 dX12_qPartTold_195 (by decide) ?_
    refine lv_bipush (v := (11 : Int32)) C.1 C.2.1 dX12_qPartTold_196 (by decide) ?_
    obtain ⟨r1, S1, h1, h⟩ := ob2_ok h
    refine hr_Vi (v := r1) (S' := S1) (As := [.int (0 : Int32), .int (11 : Int32)]) (rest := []) C cf12 (c_X12_qWordOf l E (0 : Int32) (11 : Int32) _ _ h1) yv_X12_qWordOf lk_RX12_622 rfl aM_0 rfl rfl hl.1 (Nat.le_of_ble_eq_true rfl) (by decide) (by decide) hR (ho_A hR) dX12_qPartTold_198 (fun H locs hR => ?_)
    refine lv_istore_n (lv' := [(2, .int r1), (0, .ref (E.2.1 0))]) C.1 C.2.1 dX12_qPartTold_201 rfl hl (by decide) rfl (fun ls hl => ?_)
    refine lv_iload_n C.1 C.2.1 dX12_qPartTold_202 rfl (lv_at hl 0 rfl) ?_
    refine lv_iconst (v := (-1 : Int32)) C.1 C.2.1 dX12_qPartTold_203 (by decide) ?_
    refine lv_icmp_eq (tgt := 212) C.1 C.2.1 dX12_qPartTold_204 (by decide) (fun hc => ?_) (fun hc => ?_)
    · replace h := if_t h hc
      exact w_X12_qPartTold_212 C r1 S1 h _ _ _ hR (lv_sub hl [1, 0] rfl)
    · replace h := if_f h hc
      refine lv_aload_n C.1 C.2.1 dX12_qPartTold_207 rfl (lv_at hl 1 rfl) ?_
      refine lv_iload_n C.1 C.2.1 dX12_qPartTold_208 rfl (lv_at hl 0 rfl) ?_
      obtain ⟨S2, h2, h⟩ := ob_ok h
      refine hr_Vv (S' := S2) (As := [.int r1]) (rest := []) C cf12 (c_X12_qAsksWord l E r1 _ _ h2) yv_X12_qAsksWord lk_RX12_628 rfl aM_0 rfl rfl hl.1 (Nat.le_of_ble_eq_true rfl) (by decide) (by decide) hR (ho_A hR) dX12_qPartTold_209 (fun H locs hR => ?_)
      exact w_X12_qPartTold_212 C r1 S2 h _ _ _ hR (lv_sub hl [1, 0] rfl)
  · replace h := if_f h hc
    exact ho_vret C hR h dX12_qPartTold_193
def f_X12_qPartTold_183 (K2 : Int32 → Hp → Option Hp) (x1 : Int32) (S : Hp) : Option Hp :=
  K2 x1 S
set_option maxHeartbeats 4000000 in
set_option maxRecDepth 100000 in
theorem w_X12_qPartTold_183 {p : Program} {l : Launch} {e : Env} {s : State} {m : MethodId} {args : Array Value} {below : List Frame} {meth : Method} {c : Code} {E : Ev} {S0 : Hp} {r : Hp} (C : ho_I p s m args meth c RX12 cX12_qPartTold 6 none) (K2 : Int32 → Hp → Option Hp) (hK2 : ∀ (y1 : Int32) (S : Hp), K2 y1 S = some r → ho_G p l e s m args below meth c yM E S0 5 6 (none, r) 2 [(0, .ref (E.2.1 0)), (1, .int y1)] [] S) :
    ∀ (x1 : Int32) (S : Hp), f_X12_qPartTold_183 K2 x1 S = some r → ho_G p l e s m args below meth c yM E S0 5 6 (none, r) 183 [(0, .ref (E.2.1 0)), (1, .int x1)] [] S := by
  intro x1 S h H locs ls hR hl
  unfold f_X12_qPartTold_183 at h
  refine lv_goto (tgt := 2) C.1 C.2.1 dX12_qPartTold_183 (by decide) ?_
  exact hK2 x1 S h _ _ _ hR (lv_sub hl [0, 1] rfl)
def f_X12_qPartTold_144 (K2 : Int32 → Hp → Option Hp) (x1 : Int32) (S : Hp) : Option Hp :=
  ob (f_X12_asksSign (40 : Int32) S) (fun S1 => f_X12_qPartTold_183 K2 x1 S1)
set_option maxHeartbeats 4000000 in
set_option maxRecDepth 100000 in
theorem w_X12_qPartTold_144 {p : Program} {l : Launch} {e : Env} {s : State} {m : MethodId} {args : Array Value} {below : List Frame} {meth : Method} {c : Code} {E : Ev} {S0 : Hp} {r : Hp} (C : ho_I p s m args meth c RX12 cX12_qPartTold 6 none) (K2 : Int32 → Hp → Option Hp) (hK2 : ∀ (y1 : Int32) (S : Hp), K2 y1 S = some r → ho_G p l e s m args below meth c yM E S0 5 6 (none, r) 2 [(0, .ref (E.2.1 0)), (1, .int y1)] [] S) :
    ∀ (x1 : Int32) (S : Hp), f_X12_qPartTold_144 K2 x1 S = some r → ho_G p l e s m args below meth c yM E S0 5 6 (none, r) 144 [(0, .ref (E.2.1 0)), (1, .int x1)] [] S := by
  intro x1 S h H locs ls hR hl
  unfold f_X12_qPartTold_144 at h
  refine lv_aload_n C.1 C.2.1 dX12_qPartTold_144 rfl (lv_at hl 0 rfl) ?_
  refine lv_bipush (v := (40 : Int32)) C.1 C.2.1 dX12_qPartTold_145 (by decide) ?_
  obtain ⟨S1, h1, h⟩ := ob_ok h
  refine hr_Vv (S' := S1) (As := [.int (40 : Int32)]) (rest := []) C cf12 (c_X12_asksSign l E (40 : Int32) _ _ h1) yv_X12_asksSign lk_RX12_338 rfl aM_0 rfl rfl hl.1 (Nat.le_of_ble_eq_true rfl) (by decide) (by decide) hR (ho_A hR) dX12_qPartTold_147 (fun H locs hR => ?_)
  refine lv_goto (tgt := 183) C.1 C.2.1 dX12_qPartTold_150 (by decide) ?_
  exact w_X12_qPartTold_183 C K2 hK2 x1 S1 h _ _ _ hR (lv_sub hl [0, 1] rfl)
def f_X12_qPartTold_139 (K2 : Int32 → Hp → Option Hp) (x1 : Int32) (x5 : Int32) (z1 : Int32) (S : Hp) : Option Hp :=
  ob (f_X12_qOpens z1 x5 S) (fun S1 => f_X12_qPartTold_144 K2 x1 S1)
set_option maxHeartbeats 4000000 in
set_option maxRecDepth 100000 in
theorem w_X12_qPartTold_139 {p : Program} {l : Launch} {e : Env} {s : State} {m : MethodId} {args : Array Value} {below : List Frame} {meth : Method} {c : Code} {E : Ev} {S0 : Hp} {r : Hp} (C : ho_I p s m args meth c RX12 cX12_qPartTold 6 none) (K2 : Int32 → Hp → Option Hp) (hK2 : ∀ (y1 : Int32) (S : Hp), K2 y1 S = some r → ho_G p l e s m args below meth c yM E S0 5 6 (none, r) 2 [(0, .ref (E.2.1 0)), (1, .int y1)] [] S) :
    ∀ (x1 : Int32) (x5 : Int32) (z1 : Int32) (S : Hp), f_X12_qPartTold_139 K2 x1 x5 z1 S = some r → ho_G p l e s m args below meth c yM E S0 5 6 (none, r) 139 [(0, .ref (E.2.1 0)), (1, .int x1), (5, .int x5)] [.int z1, .ref (E.2.1 0)] S := by
  intro x1 x5 z1 S h H locs ls hR hl
  unfold f_X12_qPartTold_139 at h
  refine lv_iload C.1 C.2.1 dX12_qPartTold_139 (lv_at hl 2 rfl) ?_
  obtain ⟨S1, h1, h⟩ := ob_ok h
  refine hr_Vv (S' := S1) (As := [.int z1, .int x5]) (rest := []) C cf12 (c_X12_qOpens l E z1 x5 _ _ h1) yv_X12_qOpens lk_RX12_625 rfl aM_0 rfl rfl hl.1 (Nat.le_of_ble_eq_true rfl) (by decide) (by decide) hR (ho_A hR) dX12_qPartTold_141 (fun H locs hR => ?_)
  exact w_X12_qPartTold_144 C K2 hK2 x1 S1 h _ _ _ hR (lv_sub hl [0, 1] rfl)
def f_X12_qPartTold_118 (K2 : Int32 → Hp → Option Hp) (x1 : Int32) (x4 : Int32) (z0 : Int32) (S : Hp) : Option Hp :=
  if z0 = (-1 : Int32) then f_X12_qPartTold_144 K2 x1 S else if x4 = 0 then f_X12_qPartTold_139 K2 x1 z0 (22 : Int32) S else f_X12_qPartTold_139 K2 x1 z0 (21 : Int32) S
set_option maxHeartbeats 4000000 in
set_option maxRecDepth 100000 in
theorem w_X12_qPartTold_118 {p : Program} {l : Launch} {e : Env} {s : State} {m : MethodId} {args : Array Value} {below : List Frame} {meth : Method} {c : Code} {E : Ev} {S0 : Hp} {r : Hp} (C : ho_I p s m args meth c RX12 cX12_qPartTold 6 none) (K2 : Int32 → Hp → Option Hp) (hK2 : ∀ (y1 : Int32) (S : Hp), K2 y1 S = some r → ho_G p l e s m args below meth c yM E S0 5 6 (none, r) 2 [(0, .ref (E.2.1 0)), (1, .int y1)] [] S) :
    ∀ (x1 : Int32) (x4 : Int32) (z0 : Int32) (S : Hp), f_X12_qPartTold_118 K2 x1 x4 z0 S = some r → ho_G p l e s m args below meth c yM E S0 5 6 (none, r) 118 [(0, .ref (E.2.1 0)), (1, .int x1), (4, .int x4)] [.int z0] S := by
  intro x1 x4 z0 S h H locs ls hR hl
  unfold f_X12_qPartTold_118 at h
  refine lv_istore (lv' := [(5, .int z0), (0, .ref (E.2.1 0)), (1, .int x1), (4, .int x4)]) C.1 C.2.1 dX12_qPartTold_118 hl (by decide) rfl (fun ls hl => ?_)
  refine lv_iload C.1 C.2.1 dX12_qPartTold_120 (lv_at hl 0 rfl) ?_
  refine lv_iconst (v := (-1 : Int32)) C.1 C.2.1 dX12_qPartTold_122 (by decide) ?_
  refine lv_icmp_eq (tgt := 144) C.1 C.2.1 dX12_qPartTold_123 (by decide) (fun hc => ?_) (fun hc => ?_)
  · replace h := if_t h hc
    exact w_X12_qPartTold_144 C K2 hK2 x1 S h _ _ _ hR (lv_sub hl [1, 2] rfl)
  · replace h := if_f h hc
    refine lv_aload_n C.1 C.2.1 dX12_qPartTold_126 rfl (lv_at hl 1 rfl) ?_
    refine lv_iload C.1 C.2.1 dX12_qPartTold_127 (lv_at hl 3 rfl) ?_
    refine lv_if_eq (tgt := 137) C.1 C.2.1 dX12_qPartTold_129 (by decide) (fun hc => ?_) (fun hc => ?_)
    · replace h := if_t h hc
      refine lv_bipush (v := (22 : Int32)) C.1 C.2.1 dX12_qPartTold_137 (by decide) ?_
      exact w_X12_qPartTold_139 C K2 hK2 x1 z0 (22 : Int32) S h _ _ _ hR (lv_sub hl [1, 2, 0] rfl)
    · replace h := if_f h hc
      refine lv_bipush (v := (21 : Int32)) C.1 C.2.1 dX12_qPartTold_132 (by decide) ?_
      refine lv_goto (tgt := 139) C.1 C.2.1 dX12_qPartTold_134 (by decide) ?_
      exact w_X12_qPartTold_139 C K2 hK2 x1 z0 (21 : Int32) S h _ _ _ hR (lv_sub hl [1, 2, 0] rfl)
def f_X12_qPartTold_101 (K2 : Int32 → Hp → Option Hp) (x1 : Int32) (x4 : Int32) (S : Hp) : Option Hp :=
  ob2 (f_X12_look0 S) (fun r1 S1 => if r1 = (40 : Int32) then f_X12_qPartTold_118 K2 x1 x4 (S1.1 0 2) S1 else f_X12_qPartTold_118 K2 x1 x4 (-1 : Int32) S1)
set_option maxHeartbeats 4000000 in
set_option maxRecDepth 100000 in
theorem w_X12_qPartTold_101 {p : Program} {l : Launch} {e : Env} {s : State} {m : MethodId} {args : Array Value} {below : List Frame} {meth : Method} {c : Code} {E : Ev} {S0 : Hp} {r : Hp} (C : ho_I p s m args meth c RX12 cX12_qPartTold 6 none) (K2 : Int32 → Hp → Option Hp) (hK2 : ∀ (y1 : Int32) (S : Hp), K2 y1 S = some r → ho_G p l e s m args below meth c yM E S0 5 6 (none, r) 2 [(0, .ref (E.2.1 0)), (1, .int y1)] [] S) :
    ∀ (x1 : Int32) (x4 : Int32) (S : Hp), f_X12_qPartTold_101 K2 x1 x4 S = some r → ho_G p l e s m args below meth c yM E S0 5 6 (none, r) 101 [(0, .ref (E.2.1 0)), (1, .int x1), (4, .int x4)] [] S := by
  intro x1 x4 S h H locs ls hR hl
  unfold f_X12_qPartTold_101 at h
  refine lv_aload_n C.1 C.2.1 dX12_qPartTold_101 rfl (lv_at hl 0 rfl) ?_
  obtain ⟨r1, S1, h1, h⟩ := ob2_ok h
  refine hr_Vi (v := r1) (S' := S1) (As := []) (rest := []) C cf12 (c_X12_look0 l E _ _ h1) yv_X12_look0 lk_RX12_276 rfl aM_0 rfl rfl hl.1 (Nat.le_of_ble_eq_true rfl) (by decide) (by decide) hR (ho_A hR) dX12_qPartTold_102 (fun H locs hR => ?_)
  refine lv_bipush (v := (40 : Int32)) C.1 C.2.1 dX12_qPartTold_105 (by decide) ?_
  refine lv_icmp_ne (tgt := 117) C.1 C.2.1 dX12_qPartTold_107 (by decide) (fun hc => ?_) (fun hc => ?_)
  · replace h := if_f h hc
    refine lv_iconst (v := (-1 : Int32)) C.1 C.2.1 dX12_qPartTold_117 (by decide) ?_
    exact w_X12_qPartTold_118 C K2 hK2 x1 x4 (-1 : Int32) S1 h _ _ _ hR (lv_sub hl [0, 1, 2] rfl)
  · replace h := if_t h hc
    refine lv_aload_n C.1 C.2.1 dX12_qPartTold_110 rfl (lv_at hl 0 rfl) ?_
    refine ho_getI C cf12 fM_270 hR aM_0 dX12_qPartTold_111 ?_
    refine lv_goto (tgt := 118) C.1 C.2.1 dX12_qPartTold_114 (by decide) ?_
    exact w_X12_qPartTold_118 C K2 hK2 x1 x4 (S1.1 0 2) S1 h _ _ _ hR (lv_sub hl [0, 1, 2] rfl)
def f_X12_qPartTold_78 (K2 : Int32 → Hp → Option Hp) (x1 : Int32) (S : Hp) : Option Hp :=
  ob2 (f_X12_takes 86 3 S) (fun r1 S1 => if r1 = 0 then ob (f_X12_asks 87 3 S1) (fun S2 => f_X12_qPartTold_101 K2 x1 r1 S2) else f_X12_qPartTold_101 K2 x1 r1 S1)
set_option maxHeartbeats 4000000 in
set_option maxRecDepth 100000 in
theorem w_X12_qPartTold_78 {p : Program} {l : Launch} {e : Env} {s : State} {m : MethodId} {args : Array Value} {below : List Frame} {meth : Method} {c : Code} {E : Ev} {S0 : Hp} {r : Hp} (C : ho_I p s m args meth c RX12 cX12_qPartTold 6 none) (K2 : Int32 → Hp → Option Hp) (hK2 : ∀ (y1 : Int32) (S : Hp), K2 y1 S = some r → ho_G p l e s m args below meth c yM E S0 5 6 (none, r) 2 [(0, .ref (E.2.1 0)), (1, .int y1)] [] S) :
    ∀ (x1 : Int32) (S : Hp), f_X12_qPartTold_78 K2 x1 S = some r → ho_G p l e s m args below meth c yM E S0 5 6 (none, r) 78 [(0, .ref (E.2.1 0)), (1, .int x1)] [] S := by
  intro x1 S h H locs ls hR hl
  unfold f_X12_qPartTold_78 at h
  refine lv_aload_n C.1 C.2.1 dX12_qPartTold_78 rfl (lv_at hl 0 rfl) ?_
  refine lv_aload_n C.1 C.2.1 dX12_qPartTold_79 rfl (lv_at hl 0 rfl) ?_
  refine ho_getR (a' := 86) C cf12 fM_207 hR aM_0 rfl dX12_qPartTold_80 ?_
  obtain ⟨r1, S1, h1, h⟩ := ob2_ok h
  refine hr_Vi (v := r1) (S' := S1) (As := [.ref (E.2.1 86)]) (rest := []) C cf12 (c_X12_takes l E 86 3 aM_86 _ _ h1) yv_X12_takes lk_RX12_291 rfl aM_0 rfl rfl hl.1 (Nat.le_of_ble_eq_true rfl) (by decide) (by decide) hR (ho_A hR) dX12_qPartTold_83 (fun H locs hR => ?_)
  refine lv_istore (lv' := [(4, .int r1), (0, .ref (E.2.1 0)), (1, .int x1)]) C.1 C.2.1 dX12_qPartTold_86 hl (by decide) rfl (fun ls hl => ?_)
  refine lv_iload C.1 C.2.1 dX12_qPartTold_88 (lv_at hl 0 rfl) ?_
  refine lv_if_ne (tgt := 101) C.1 C.2.1 dX12_qPartTold_90 (by decide) (fun hc => ?_) (fun hc => ?_)
  · replace h := if_f h hc
    exact w_X12_qPartTold_101 C K2 hK2 x1 r1 S1 h _ _ _ hR (lv_sub hl [1, 2, 0] rfl)
  · replace h := if_t h hc
    refine lv_aload_n C.1 C.2.1 dX12_qPartTold_93 rfl (lv_at hl 1 rfl) ?_
    refine lv_aload_n C.1 C.2.1 dX12_qPartTold_94 rfl (lv_at hl 1 rfl) ?_
    refine ho_getR (a' := 87) C cf12 fM_210 hR aM_0 rfl dX12_qPartTold_95 ?_
    obtain ⟨S2, h2, h⟩ := ob_ok h
    refine hr_Vv (S' := S2) (As := [.ref (E.2.1 87)]) (rest := []) C cf12 (c_X12_asks l E 87 3 aM_87 _ _ h2) yv_X12_asks lk_RX12_330 rfl aM_0 rfl rfl hl.1 (Nat.le_of_ble_eq_true rfl) (by decide) (by decide) hR (ho_A hR) dX12_qPartTold_98 (fun H locs hR => ?_)
    exact w_X12_qPartTold_101 C K2 hK2 x1 r1 S2 h _ _ _ hR (lv_sub hl [1, 2, 0] rfl)
def f_X12_qPartTold_2 : Nat → Int32 → Hp → Option Hp
  | 0, _, _ => none
  | k + 1, x1, S => if x1 = 0 then f_X12_qPartTold_186 S else if (S.1 0 5) = 0 then ob2 (f_X12_look0 S) (fun r1 S1 => ob2 (f_X12_qWordOf (11 : Int32) (12 : Int32) S1) (fun r2 S2 => if r1 = (40 : Int32) then ob (f_X12_qOpens (20 : Int32) (S2.1 0 2) S2) (fun S7 => le1 (ho_sI S7 0 2 ((S7.1 0 2) + (1 : Int32))) (fun S8 => f_X12_qPartTold_183 (f_X12_qPartTold_2 k) x1 S8)) else ob2 (f_X12_isHere 86 3 S2) (fun r3 S3 => if r3 = 0 then ob2 (f_X12_isHere 87 3 S3) (fun r4 S4 => if r4 = 0 then if r2 = (-1 : Int32) then f_X12_qPartTold_183 (f_X12_qPartTold_2 k) (0 : Int32) S4 else ob (f_X12_qOpens (((60 : Int32) + r2) - (11 : Int32)) (S4.1 0 2) S4) (fun S5 => ob (f_X12_qAsksWord r2 S5) (fun S6 => f_X12_qPartTold_183 (f_X12_qPartTold_2 k) x1 S6)) else f_X12_qPartTold_78 (f_X12_qPartTold_2 k) x1 S4) else f_X12_qPartTold_78 (f_X12_qPartTold_2 k) x1 S3))) else f_X12_qPartTold_186 S
set_option maxHeartbeats 4000000 in
set_option maxRecDepth 100000 in
theorem w_X12_qPartTold_2 {p : Program} {l : Launch} {e : Env} {s : State} {m : MethodId} {args : Array Value} {below : List Frame} {meth : Method} {c : Code} {E : Ev} {S0 : Hp} {r : Hp} (C : ho_I p s m args meth c RX12 cX12_qPartTold 6 none) :
    ∀ (k : Nat) (x1 : Int32) (S : Hp), f_X12_qPartTold_2 k x1 S = some r → ho_G p l e s m args below meth c yM E S0 5 6 (none, r) 2 [(0, .ref (E.2.1 0)), (1, .int x1)] [] S := by
  intro k
  induction k with
  | zero =>
    intro x1 S h
    exact absurd (show (none : Option Hp) = some r from h) (by simp)
  | succ k ih =>
    intro x1 S h H locs ls hR hl
    rw [f_X12_qPartTold_2] at h
    refine lv_iload_n C.1 C.2.1 dX12_qPartTold_2 rfl (lv_at hl 1 rfl) ?_
    refine lv_if_eq (tgt := 186) C.1 C.2.1 dX12_qPartTold_3 (by decide) (fun hc => ?_) (fun hc => ?_)
    · replace h := if_t h hc
      exact w_X12_qPartTold_186 C S h _ _ _ hR (lv_sub hl [0] rfl)
    · replace h := if_f h hc
      refine lv_aload_n C.1 C.2.1 dX12_qPartTold_6 rfl (lv_at hl 0 rfl) ?_
      refine ho_getI C cf12 fM_264 hR aM_0 dX12_qPartTold_7 ?_
      refine lv_if_ne (tgt := 186) C.1 C.2.1 dX12_qPartTold_10 (by decide) (fun hc => ?_) (fun hc => ?_)
      · replace h := if_f h hc
        exact w_X12_qPartTold_186 C S h _ _ _ hR (lv_sub hl [0] rfl)
      · replace h := if_t h hc
        refine lv_aload_n C.1 C.2.1 dX12_qPartTold_13 rfl (lv_at hl 0 rfl) ?_
        obtain ⟨r1, S1, h1, h⟩ := ob2_ok h
        refine hr_Vi (v := r1) (S' := S1) (As := []) (rest := []) C cf12 (c_X12_look0 l E _ _ h1) yv_X12_look0 lk_RX12_276 rfl aM_0 rfl rfl hl.1 (Nat.le_of_ble_eq_true rfl) (by decide) (by decide) hR (ho_A hR) dX12_qPartTold_14 (fun H locs hR => ?_)
        refine lv_istore_n (lv' := [(2, .int r1), (0, .ref (E.2.1 0)), (1, .int x1)]) C.1 C.2.1 dX12_qPartTold_17 rfl hl (by decide) rfl (fun ls hl => ?_)
        refine lv_aload_n C.1 C.2.1 dX12_qPartTold_18 rfl (lv_at hl 1 rfl) ?_
        refine lv_bipush (v := (11 : Int32)) C.1 C.2.1 dX12_qPartTold_19 (by decide) ?_
        refine lv_bipush (v := (12 : Int32)) C.1 C.2.1 dX12_qPartTold_21 (by decide) ?_
        obtain ⟨r2, S2, h2, h⟩ := ob2_ok h
        refine hr_Vi (v := r2) (S' := S2) (As := [.int (11 : Int32), .int (12 : Int32)]) (rest := []) C cf12 (c_X12_qWordOf l E (11 : Int32) (12 : Int32) _ _ h2) yv_X12_qWordOf lk_RX12_622 rfl aM_0 rfl rfl hl.1 (Nat.le_of_ble_eq_true rfl) (by decide) (by decide) hR (ho_A hR) dX12_qPartTold_23 (fun H locs hR => ?_)
        refine lv_istore_n (lv' := [(3, .int r2), (2, .int r1), (0, .ref (E.2.1 0)), (1, .int x1)]) C.1 C.2.1 dX12_qPartTold_26 rfl hl (by decide) rfl (fun ls hl => ?_)
        refine lv_iload_n C.1 C.2.1 dX12_qPartTold_27 rfl (lv_at hl 1 rfl) ?_
        refine lv_bipush (v := (40 : Int32)) C.1 C.2.1 dX12_qPartTold_28 (by decide) ?_
        refine lv_icmp_ne (tgt := 56) C.1 C.2.1 dX12_qPartTold_30 (by decide) (fun hc => ?_) (fun hc => ?_)
        · replace h := if_f h hc
          refine lv_aload_n C.1 C.2.1 dX12_qPartTold_56 rfl (lv_at hl 2 rfl) ?_
          refine lv_aload_n C.1 C.2.1 dX12_qPartTold_57 rfl (lv_at hl 2 rfl) ?_
          refine ho_getR (a' := 86) C cf12 fM_207 hR aM_0 rfl dX12_qPartTold_58 ?_
          obtain ⟨r3, S3, h3, h⟩ := ob2_ok h
          refine hr_Vi (v := r3) (S' := S3) (As := [.ref (E.2.1 86)]) (rest := []) C cf12 (c_X12_isHere l E 86 3 aM_86 _ _ h3) yv_X12_isHere lk_RX12_287 rfl aM_0 rfl rfl hl.1 (Nat.le_of_ble_eq_true rfl) (by decide) (by decide) hR (ho_A hR) dX12_qPartTold_61 (fun H locs hR => ?_)
          refine lv_if_ne (tgt := 78) C.1 C.2.1 dX12_qPartTold_64 (by decide) (fun hc => ?_) (fun hc => ?_)
          · replace h := if_f h hc
            exact w_X12_qPartTold_78 C (f_X12_qPartTold_2 k) ih x1 S3 h _ _ _ hR (lv_sub hl [2, 3] rfl)
          · replace h := if_t h hc
            refine lv_aload_n C.1 C.2.1 dX12_qPartTold_67 rfl (lv_at hl 2 rfl) ?_
            refine lv_aload_n C.1 C.2.1 dX12_qPartTold_68 rfl (lv_at hl 2 rfl) ?_
            refine ho_getR (a' := 87) C cf12 fM_210 hR aM_0 rfl dX12_qPartTold_69 ?_
            obtain ⟨r4, S4, h4, h⟩ := ob2_ok h
            refine hr_Vi (v := r4) (S' := S4) (As := [.ref (E.2.1 87)]) (rest := []) C cf12 (c_X12_isHere l E 87 3 aM_87 _ _ h4) yv_X12_isHere lk_RX12_287 rfl aM_0 rfl rfl hl.1 (Nat.le_of_ble_eq_true rfl) (by decide) (by decide) hR (ho_A hR) dX12_qPartTold_72 (fun H locs hR => ?_)
            refine lv_if_eq (tgt := 153) C.1 C.2.1 dX12_qPartTold_75 (by decide) (fun hc => ?_) (fun hc => ?_)
            · replace h := if_t h hc
              refine lv_iload_n C.1 C.2.1 dX12_qPartTold_153 rfl (lv_at hl 0 rfl) ?_
              refine lv_iconst (v := (-1 : Int32)) C.1 C.2.1 dX12_qPartTold_154 (by decide) ?_
              refine lv_icmp_eq (tgt := 181) C.1 C.2.1 dX12_qPartTold_155 (by decide) (fun hc => ?_) (fun hc => ?_)
              · replace h := if_t h hc
                refine lv_iconst (v := (0 : Int32)) C.1 C.2.1 dX12_qPartTold_181 (by decide) ?_
                refine lv_istore_n (lv' := [(1, .int (0 : Int32)), (3, .int r2), (2, .int r1), (0, .ref (E.2.1 0))]) C.1 C.2.1 dX12_qPartTold_182 rfl hl (by decide) rfl (fun ls hl => ?_)
                exact w_X12_qPartTold_183 C (f_X12_qPartTold_2 k) ih (0 : Int32) S4 h _ _ _ hR (lv_sub hl [3, 0] rfl)
              · replace h := if_f h hc
                refine lv_aload_n C.1 C.2.1 dX12_qPartTold_158 rfl (lv_at hl 2 rfl) ?_
                refine lv_bipush (v := (60 : Int32)) C.1 C.2.1 dX12_qPartTold_159 (by decide) ?_
                refine lv_iload_n C.1 C.2.1 dX12_qPartTold_161 rfl (lv_at hl 0 rfl) ?_
                refine lv_iadd C.1 C.2.1 dX12_qPartTold_162 ?_
                refine lv_bipush (v := (11 : Int32)) C.1 C.2.1 dX12_qPartTold_163 (by decide) ?_
                refine lv_isub C.1 C.2.1 dX12_qPartTold_165 ?_
                refine lv_aload_n C.1 C.2.1 dX12_qPartTold_166 rfl (lv_at hl 2 rfl) ?_
                refine ho_getI C cf12 fM_270 hR aM_0 dX12_qPartTold_167 ?_
                obtain ⟨S5, h5, h⟩ := ob_ok h
                refine hr_Vv (S' := S5) (As := [.int (((60 : Int32) + r2) - (11 : Int32)), .int (S4.1 0 2)]) (rest := []) C cf12 (c_X12_qOpens l E (((60 : Int32) + r2) - (11 : Int32)) (S4.1 0 2) _ _ h5) yv_X12_qOpens lk_RX12_625 rfl aM_0 rfl rfl hl.1 (Nat.le_of_ble_eq_true rfl) (by decide) (by decide) hR (ho_A hR) dX12_qPartTold_170 (fun H locs hR => ?_)
                refine lv_aload_n C.1 C.2.1 dX12_qPartTold_173 rfl (lv_at hl 2 rfl) ?_
                refine lv_iload_n C.1 C.2.1 dX12_qPartTold_174 rfl (lv_at hl 0 rfl) ?_
                obtain ⟨S6, h6, h⟩ := ob_ok h
                refine hr_Vv (S' := S6) (As := [.int r2]) (rest := []) C cf12 (c_X12_qAsksWord l E r2 _ _ h6) yv_X12_qAsksWord lk_RX12_628 rfl aM_0 rfl rfl hl.1 (Nat.le_of_ble_eq_true rfl) (by decide) (by decide) hR (ho_A hR) dX12_qPartTold_175 (fun H locs hR => ?_)
                refine lv_goto (tgt := 183) C.1 C.2.1 dX12_qPartTold_178 (by decide) ?_
                exact w_X12_qPartTold_183 C (f_X12_qPartTold_2 k) ih x1 S6 h _ _ _ hR (lv_sub hl [2, 3] rfl)
            · replace h := if_f h hc
              exact w_X12_qPartTold_78 C (f_X12_qPartTold_2 k) ih x1 S4 h _ _ _ hR (lv_sub hl [2, 3] rfl)
        · replace h := if_t h hc
          refine lv_aload_n C.1 C.2.1 dX12_qPartTold_33 rfl (lv_at hl 2 rfl) ?_
          refine lv_bipush (v := (20 : Int32)) C.1 C.2.1 dX12_qPartTold_34 (by decide) ?_
          refine lv_aload_n C.1 C.2.1 dX12_qPartTold_36 rfl (lv_at hl 2 rfl) ?_
          refine ho_getI C cf12 fM_270 hR aM_0 dX12_qPartTold_37 ?_
          obtain ⟨S7, h7, h⟩ := ob_ok h
          refine hr_Vv (S' := S7) (As := [.int (20 : Int32), .int (S2.1 0 2)]) (rest := []) C cf12 (c_X12_qOpens l E (20 : Int32) (S2.1 0 2) _ _ h7) yv_X12_qOpens lk_RX12_625 rfl aM_0 rfl rfl hl.1 (Nat.le_of_ble_eq_true rfl) (by decide) (by decide) hR (ho_A hR) dX12_qPartTold_40 (fun H locs hR => ?_)
          refine lv_aload_n C.1 C.2.1 dX12_qPartTold_43 rfl (lv_at hl 2 rfl) ?_
          refine lv_dup C.1 C.2.1 dX12_qPartTold_44 rfl ?_
          refine ho_getI C cf12 fM_270 hR aM_0 dX12_qPartTold_45 ?_
          refine lv_iconst (v := (1 : Int32)) C.1 C.2.1 dX12_qPartTold_48 (by decide) ?_
          refine lv_iadd C.1 C.2.1 dX12_qPartTold_49 ?_
          obtain ⟨S8, e8, h⟩ := le1_ok h
          refine hr_putI C cf12 fM_270 hR aM_0 e8 dX12_qPartTold_50 (fun H locs hR => ?_)
          refine lv_goto (tgt := 183) C.1 C.2.1 dX12_qPartTold_53 (by decide) ?_
          exact w_X12_qPartTold_183 C (f_X12_qPartTold_2 k) ih x1 S8 h _ _ _ hR (lv_sub hl [2, 3] rfl)
def f_X12_qPartTold (S : Hp) : Option Hp :=
  f_X12_qPartTold_2 5000 (1 : Int32) S
set_option maxHeartbeats 4000000 in
set_option maxRecDepth 100000 in
theorem c_X12_qPartTold (l : Launch) (E : Ev) (S : Hp) (r : Hp) (h : f_X12_qPartTold S = some r) : ho_M l yM E yX12_qPartTold cX12_qPartTold 6 none 5 [.ref (E.2.1 0)] S (none, r) := by
  refine ho_in (by decide) (Nat.le_of_ble_eq_true rfl) ?_
  intro p e s m args below meth c C hR ls hl
  have C : ho_I p s m args meth c RX12 cX12_qPartTold 6 none := C
  have hl : lv_has ls 6 [(0, .ref (E.2.1 0))] := hl
  unfold f_X12_qPartTold at h
  refine lv_iconst (v := (1 : Int32)) C.1 C.2.1 dX12_qPartTold_0 (by decide) ?_
  refine lv_istore_n (lv' := [(1, .int (1 : Int32)), (0, .ref (E.2.1 0))]) C.1 C.2.1 dX12_qPartTold_1 rfl hl (by decide) rfl (fun ls hl => ?_)
  exact w_X12_qPartTold_2 C 5000 (1 : Int32) S h _ _ _ hR (lv_sub hl [1, 0] rfl)
theorem dX12_qIsBracket_0 : decode cX12_qIsBracket 0 = .ok (.iload_n 0, 1) := by decide +kernel
theorem dX12_qIsBracket_1 : decode cX12_qIsBracket 1 = .ok (.bipush 20, 2) := by decide +kernel
theorem dX12_qIsBracket_3 : decode cX12_qIsBracket 3 = .ok (.if_icmp .lt 13, 3) := by decide +kernel
theorem dX12_qIsBracket_6 : decode cX12_qIsBracket 6 = .ok (.iload_n 0, 1) := by decide +kernel
theorem dX12_qIsBracket_7 : decode cX12_qIsBracket 7 = .ok (.bipush 24, 2) := by decide +kernel
theorem dX12_qIsBracket_9 : decode cX12_qIsBracket 9 = .ok (.if_icmp .gt 7, 3) := by decide +kernel
theorem dX12_qIsBracket_12 : decode cX12_qIsBracket 12 = .ok (.iconst 1, 1) := by decide +kernel
theorem dX12_qIsBracket_13 : decode cX12_qIsBracket 13 = .ok (.goto 4, 3) := by decide +kernel
theorem dX12_qIsBracket_16 : decode cX12_qIsBracket 16 = .ok (.iconst 0, 1) := by decide +kernel
theorem dX12_qIsBracket_17 : decode cX12_qIsBracket 17 = .ok (.ireturn, 1) := by decide +kernel
def f_X12_qIsBracket (x0 : Int32) (S : Hp) : Option (Int32 × Hp) :=
  if x0 < (20 : Int32) then some ((0 : Int32), S) else if (24 : Int32) < x0 then some ((0 : Int32), S) else some ((1 : Int32), S)
set_option maxHeartbeats 4000000 in
set_option maxRecDepth 100000 in
theorem c_X12_qIsBracket (l : Launch) (E : Ev) (x0 : Int32) (S : Hp) (r : (Int32 × Hp)) (h : f_X12_qIsBracket x0 S = some r) : ho_M l yM E yX12_qIsBracket cX12_qIsBracket 1 (some .boolean) 0 [.int x0] S (some (.int r.1), r.2) := by
  refine ho_in (by decide) (Nat.le_of_ble_eq_true rfl) ?_
  intro p e s m args below meth c C hR ls hl
  have C : ho_I p s m args meth c RX12 cX12_qIsBracket 1 (some .boolean) := C
  have hl : lv_has ls 1 [(0, .int x0)] := hl
  unfold f_X12_qIsBracket at h
  refine lv_iload_n C.1 C.2.1 dX12_qIsBracket_0 rfl (lv_at hl 0 rfl) ?_
  refine lv_bipush (v := (20 : Int32)) C.1 C.2.1 dX12_qIsBracket_1 (by decide) ?_
  refine lv_icmp_lt (tgt := 16) C.1 C.2.1 dX12_qIsBracket_3 (by decide) (fun hc => ?_) (fun hc => ?_)
  · replace h := if_t h hc
    refine lv_iconst (v := (0 : Int32)) C.1 C.2.1 dX12_qIsBracket_16 (by decide) ?_
    exact ho_zret C hR (Or.inl rfl) h dX12_qIsBracket_17
  · replace h := if_f h hc
    refine lv_iload_n C.1 C.2.1 dX12_qIsBracket_6 rfl (lv_at hl 0 rfl) ?_
    refine lv_bipush (v := (24 : Int32)) C.1 C.2.1 dX12_qIsBracket_7 (by decide) ?_
    refine lv_icmp_gt (tgt := 16) C.1 C.2.1 dX12_qIsBracket_9 (by decide) (fun hc => ?_) (fun hc => ?_)
    · replace h := if_t h hc
      refine lv_iconst (v := (0 : Int32)) C.1 C.2.1 dX12_qIsBracket_16 (by decide) ?_
      exact ho_zret C hR (Or.inl rfl) h dX12_qIsBracket_17
    · replace h := if_f h hc
      refine lv_iconst (v := (1 : Int32)) C.1 C.2.1 dX12_qIsBracket_12 (by decide) ?_
      refine lv_goto (tgt := 17) C.1 C.2.1 dX12_qIsBracket_13 (by decide) ?_
      exact ho_zret C hR (Or.inr rfl) h dX12_qIsBracket_17
theorem dX12_qBracket_0 : decode cX12_qBracket 0 = .ok (.aload_n 0, 1) := by decide +kernel
theorem dX12_qBracket_1 : decode cX12_qBracket 1 = .ok (.getfield 355, 3) := by decide +kernel
theorem dX12_qBracket_4 : decode cX12_qBracket 4 = .ok (.iconst 1, 1) := by decide +kernel
theorem dX12_qBracket_5 : decode cX12_qBracket 5 = .ok (.isub, 1) := by decide +kernel
theorem dX12_qBracket_6 : decode cX12_qBracket 6 = .ok (.istore_n 1, 1) := by decide +kernel
theorem dX12_qBracket_7 : decode cX12_qBracket 7 = .ok (.iload_n 1, 1) := by decide +kernel
theorem dX12_qBracket_8 : decode cX12_qBracket 8 = .ok (.aload_n 0, 1) := by decide +kernel
theorem dX12_qBracket_9 : decode cX12_qBracket 9 = .ok (.getfield 361, 3) := by decide +kernel
theorem dX12_qBracket_12 : decode cX12_qBracket 12 = .ok (.if_icmp .lt 21, 3) := by decide +kernel
theorem dX12_qBracket_15 : decode cX12_qBracket 15 = .ok (.aload_n 0, 1) := by decide +kernel
theorem dX12_qBracket_16 : decode cX12_qBracket 16 = .ok (.getfield 252, 3) := by decide +kernel
theorem dX12_qBracket_19 : decode cX12_qBracket 19 = .ok (.iload_n 1, 1) := by decide +kernel
theorem dX12_qBracket_20 : decode cX12_qBracket 20 = .ok (.iaload, 1) := by decide +kernel
theorem dX12_qBracket_21 : decode cX12_qBracket 21 = .ok (.invokestatic 610, 3) := by decide +kernel
theorem dX12_qBracket_24 : decode cX12_qBracket 24 = .ok (.ifCond .ne 9, 3) := by decide +kernel
theorem dX12_qBracket_27 : decode cX12_qBracket 27 = .ok (.iinc 1 (-1), 3) := by decide +kernel
theorem dX12_qBracket_30 : decode cX12_qBracket 30 = .ok (.goto (-23), 3) := by decide +kernel
theorem dX12_qBracket_33 : decode cX12_qBracket 33 = .ok (.iload_n 1, 1) := by decide +kernel
theorem dX12_qBracket_34 : decode cX12_qBracket 34 = .ok (.aload_n 0, 1) := by decide +kernel
theorem dX12_qBracket_35 : decode cX12_qBracket 35 = .ok (.getfield 361, 3) := by decide +kernel
theorem dX12_qBracket_38 : decode cX12_qBracket 38 = .ok (.if_icmp .lt 12, 3) := by decide +kernel
theorem dX12_qBracket_41 : decode cX12_qBracket 41 = .ok (.aload_n 0, 1) := by decide +kernel
theorem dX12_qBracket_42 : decode cX12_qBracket 42 = .ok (.getfield 252, 3) := by decide +kernel
theorem dX12_qBracket_45 : decode cX12_qBracket 45 = .ok (.iload_n 1, 1) := by decide +kernel
theorem dX12_qBracket_46 : decode cX12_qBracket 46 = .ok (.iaload, 1) := by decide +kernel
theorem dX12_qBracket_47 : decode cX12_qBracket 47 = .ok (.goto 4, 3) := by decide +kernel
theorem dX12_qBracket_50 : decode cX12_qBracket 50 = .ok (.iconst (-1), 1) := by decide +kernel
theorem dX12_qBracket_51 : decode cX12_qBracket 51 = .ok (.ireturn, 1) := by decide +kernel
def f_X12_qBracket_33 (x1 : Int32) (S : Hp) : Option (Int32 × Hp) :=
  if x1 < (S.1 0 104) then some ((-1 : Int32), S) else ldI S 102 1700 x1 (fun v1 => some (v1, S))
set_option maxHeartbeats 4000000 in
set_option maxRecDepth 100000 in
theorem w_X12_qBracket_33 {p : Program} {l : Launch} {e : Env} {s : State} {m : MethodId} {args : Array Value} {below : List Frame} {meth : Method} {c : Code} {E : Ev} {S0 : Hp} {r : (Int32 × Hp)} (C : ho_I p s m args meth c RX12 cX12_qBracket 2 (some .int)) :
    ∀ (x1 : Int32) (S : Hp), f_X12_qBracket_33 x1 S = some r → ho_G p l e s m args below meth c yM E S0 1 2 (some (.int r.1), r.2) 33 [(0, .ref (E.2.1 0)), (1, .int x1)] [] S := by
  intro x1 S h H locs ls hR hl
  unfold f_X12_qBracket_33 at h
  refine lv_iload_n C.1 C.2.1 dX12_qBracket_33 rfl (lv_at hl 1 rfl) ?_
  refine lv_aload_n C.1 C.2.1 dX12_qBracket_34 rfl (lv_at hl 0 rfl) ?_
  refine ho_getI C cf12 fM_361 hR aM_0 dX12_qBracket_35 ?_
  refine lv_icmp_lt (tgt := 50) C.1 C.2.1 dX12_qBracket_38 (by decide) (fun hc => ?_) (fun hc => ?_)
  · replace h := if_t h hc
    refine lv_iconst (v := (-1 : Int32)) C.1 C.2.1 dX12_qBracket_50 (by decide) ?_
    exact ho_iret C hR h dX12_qBracket_51
  · replace h := if_f h hc
    refine lv_aload_n C.1 C.2.1 dX12_qBracket_41 rfl (lv_at hl 0 rfl) ?_
    refine ho_getR (a' := 102) C cf12 fM_252 hR aM_0 rfl dX12_qBracket_42 ?_
    refine lv_iload_n C.1 C.2.1 dX12_qBracket_45 rfl (lv_at hl 1 rfl) ?_
    obtain ⟨v1, e1, hi1, h⟩ := ldI_ok h
    refine hr_ild C hR aM_102 hi1 e1 dX12_qBracket_46 ?_
    refine lv_goto (tgt := 51) C.1 C.2.1 dX12_qBracket_47 (by decide) ?_
    exact ho_iret C hR h dX12_qBracket_51
def f_X12_qBracket_7 : Nat → Int32 → Hp → Option (Int32 × Hp)
  | 0, _, _ => none
  | k + 1, x1, S => if x1 < (S.1 0 104) then f_X12_qBracket_33 x1 S else ldI S 102 1700 x1 (fun v1 => ob2 (f_X12_qIsBracket v1 S) (fun r2 S2 => if r2 = 0 then le1 (x1 + (-1 : Int32)) (fun v3 => f_X12_qBracket_7 k v3 S2) else f_X12_qBracket_33 x1 S2))
set_option maxHeartbeats 4000000 in
set_option maxRecDepth 100000 in
theorem w_X12_qBracket_7 {p : Program} {l : Launch} {e : Env} {s : State} {m : MethodId} {args : Array Value} {below : List Frame} {meth : Method} {c : Code} {E : Ev} {S0 : Hp} {r : (Int32 × Hp)} (C : ho_I p s m args meth c RX12 cX12_qBracket 2 (some .int)) :
    ∀ (k : Nat) (x1 : Int32) (S : Hp), f_X12_qBracket_7 k x1 S = some r → ho_G p l e s m args below meth c yM E S0 1 2 (some (.int r.1), r.2) 7 [(0, .ref (E.2.1 0)), (1, .int x1)] [] S := by
  intro k
  induction k with
  | zero =>
    intro x1 S h
    exact absurd (show (none : Option (Int32 × Hp)) = some r from h) (by simp)
  | succ k ih =>
    intro x1 S h H locs ls hR hl
    rw [f_X12_qBracket_7] at h
    refine lv_iload_n C.1 C.2.1 dX12_qBracket_7 rfl (lv_at hl 1 rfl) ?_
    refine lv_aload_n C.1 C.2.1 dX12_qBracket_8 rfl (lv_at hl 0 rfl) ?_
    refine ho_getI C cf12 fM_361 hR aM_0 dX12_qBracket_9 ?_
    refine lv_icmp_lt (tgt := 33) C.1 C.2.1 dX12_qBracket_12 (by decide) (fun hc => ?_) (fun hc => ?_)
    · replace h := if_t h hc
      exact w_X12_qBracket_33 C x1 S h _ _ _ hR (lv_sub hl [0, 1] rfl)
    · replace h := if_f h hc
      refine lv_aload_n C.1 C.2.1 dX12_qBracket_15 rfl (lv_at hl 0 rfl) ?_
      refine ho_getR (a' := 102) C cf12 fM_252 hR aM_0 rfl dX12_qBracket_16 ?_
      refine lv_iload_n C.1 C.2.1 dX12_qBracket_19 rfl (lv_at hl 1 rfl) ?_
      obtain ⟨v1, e1, hi1, h⟩ := ldI_ok h
      refine hr_ild C hR aM_102 hi1 e1 dX12_qBracket_20 ?_
      obtain ⟨r2, S2, h2, h⟩ := ob2_ok h
      refine hr_Si (v := r2) (S' := S2) (As := [.int v1]) (rest := []) C (c_X12_qIsBracket l E v1 _ _ h2) ys_X12_qIsBracket lk_RX12_610 rfl rfl hl.1 (Nat.le_of_ble_eq_true rfl) (by decide) (by decide) hR (ho_A hR) dX12_qBracket_21 (fun H locs hR => ?_)
      refine lv_if_ne (tgt := 33) C.1 C.2.1 dX12_qBracket_24 (by decide) (fun hc => ?_) (fun hc => ?_)
      · replace h := if_f h hc
        exact w_X12_qBracket_33 C x1 S2 h _ _ _ hR (lv_sub hl [0, 1] rfl)
      · replace h := if_t h hc
        obtain ⟨v3, e3, h⟩ := le1_ok h
        refine lv_iinc (v := v3) (lv' := [(1, .int v3), (0, .ref (E.2.1 0))]) C.1 C.2.1 dX12_qBracket_27 hl (k := 1) rfl (by rw [e3]; rfl) (by decide) rfl (fun ls hl => ?_)
        refine lv_goto (tgt := 7) C.1 C.2.1 dX12_qBracket_30 (by decide) ?_
        exact ih v3 S2 h _ _ _ hR (lv_sub hl [1, 0] rfl)
def f_X12_qBracket (S : Hp) : Option (Int32 × Hp) :=
  le1 ((S.1 0 102) - (1 : Int32)) (fun v1 => f_X12_qBracket_7 5000 v1 S)
set_option maxHeartbeats 4000000 in
set_option maxRecDepth 100000 in
theorem c_X12_qBracket (l : Launch) (E : Ev) (S : Hp) (r : (Int32 × Hp)) (h : f_X12_qBracket S = some r) : ho_M l yM E yX12_qBracket cX12_qBracket 2 (some .int) 1 [.ref (E.2.1 0)] S (some (.int r.1), r.2) := by
  refine ho_in (by decide) (Nat.le_of_ble_eq_true rfl) ?_
  intro p e s m args below meth c C hR ls hl
  have C : ho_I p s m args meth c RX12 cX12_qBracket 2 (some .int) := C
  have hl : lv_has ls 2 [(0, .ref (E.2.1 0))] := hl
  unfold f_X12_qBracket at h
  refine lv_aload_n C.1 C.2.1 dX12_qBracket_0 rfl (lv_at hl 0 rfl) ?_
  refine ho_getI C cf12 fM_355 hR aM_0 dX12_qBracket_1 ?_
  refine lv_iconst (v := (1 : Int32)) C.1 C.2.1 dX12_qBracket_4 (by decide) ?_
  refine lv_isub C.1 C.2.1 dX12_qBracket_5 ?_
  refine lv_topi (fun v1 e1 => ?_)
  replace h := le1_at e1 h
  refine lv_istore_n (lv' := [(1, .int v1), (0, .ref (E.2.1 0))]) C.1 C.2.1 dX12_qBracket_6 rfl hl (by decide) rfl (fun ls hl => ?_)
  exact w_X12_qBracket_7 C 5000 v1 S h _ _ _ hR (lv_sub hl [1, 0] rfl)
theorem dX12_qDropsToBracket_0 : decode cX12_qDropsToBracket 0 = .ok (.aload_n 0, 1) := by decide +kernel
theorem dX12_qDropsToBracket_1 : decode cX12_qDropsToBracket 1 = .ok (.getfield 355, 3) := by decide +kernel
theorem dX12_qDropsToBracket_4 : decode cX12_qDropsToBracket 4 = .ok (.aload_n 0, 1) := by decide +kernel
theorem dX12_qDropsToBracket_5 : decode cX12_qDropsToBracket 5 = .ok (.getfield 361, 3) := by decide +kernel
theorem dX12_qDropsToBracket_8 : decode cX12_qDropsToBracket 8 = .ok (.if_icmp .le 27, 3) := by decide +kernel
theorem dX12_qDropsToBracket_11 : decode cX12_qDropsToBracket 11 = .ok (.aload_n 0, 1) := by decide +kernel
theorem dX12_qDropsToBracket_12 : decode cX12_qDropsToBracket 12 = .ok (.getfield 252, 3) := by decide +kernel
theorem dX12_qDropsToBracket_15 : decode cX12_qDropsToBracket 15 = .ok (.aload_n 0, 1) := by decide +kernel
theorem dX12_qDropsToBracket_16 : decode cX12_qDropsToBracket 16 = .ok (.getfield 355, 3) := by decide +kernel
theorem dX12_qDropsToBracket_19 : decode cX12_qDropsToBracket 19 = .ok (.iconst 1, 1) := by decide +kernel
theorem dX12_qDropsToBracket_20 : decode cX12_qDropsToBracket 20 = .ok (.isub, 1) := by decide +kernel
theorem dX12_qDropsToBracket_21 : decode cX12_qDropsToBracket 21 = .ok (.iaload, 1) := by decide +kernel
theorem dX12_qDropsToBracket_22 : decode cX12_qDropsToBracket 22 = .ok (.invokestatic 610, 3) := by decide +kernel
theorem dX12_qDropsToBracket_25 : decode cX12_qDropsToBracket 25 = .ok (.ifCond .ne 10, 3) := by decide +kernel
theorem dX12_qDropsToBracket_28 : decode cX12_qDropsToBracket 28 = .ok (.aload_n 0, 1) := by decide +kernel
theorem dX12_qDropsToBracket_29 : decode cX12_qDropsToBracket 29 = .ok (.invokevirtual 613, 3) := by decide +kernel
theorem dX12_qDropsToBracket_32 : decode cX12_qDropsToBracket 32 = .ok (.goto (-32), 3) := by decide +kernel
theorem dX12_qDropsToBracket_35 : decode cX12_qDropsToBracket 35 = .ok (.return_, 1) := by decide +kernel
def f_X12_qDropsToBracket_0 : Nat → Hp → Option Hp
  | 0, _ => none
  | k + 1, S => if (S.1 0 102) ≤ (S.1 0 104) then some S else ldI S 102 1700 ((S.1 0 102) - (1 : Int32)) (fun v1 => ob2 (f_X12_qIsBracket v1 S) (fun r2 S2 => if r2 = 0 then ob (f_X12_qDrops S2) (fun S3 => f_X12_qDropsToBracket_0 k S3) else some S2))
set_option maxHeartbeats 4000000 in
set_option maxRecDepth 100000 in
theorem w_X12_qDropsToBracket_0 {p : Program} {l : Launch} {e : Env} {s : State} {m : MethodId} {args : Array Value} {below : List Frame} {meth : Method} {c : Code} {E : Ev} {S0 : Hp} {r : Hp} (C : ho_I p s m args meth c RX12 cX12_qDropsToBracket 1 none) :
    ∀ (k : Nat) (S : Hp), f_X12_qDropsToBracket_0 k S = some r → ho_G p l e s m args below meth c yM E S0 2 1 (none, r) 0 [(0, .ref (E.2.1 0))] [] S := by
  intro k
  induction k with
  | zero =>
    intro S h
    exact absurd (show (none : Option Hp) = some r from h) (by simp)
  | succ k ih =>
    intro S h H locs ls hR hl
    rw [f_X12_qDropsToBracket_0] at h
    refine lv_aload_n C.1 C.2.1 dX12_qDropsToBracket_0 rfl (lv_at hl 0 rfl) ?_
    refine ho_getI C cf12 fM_355 hR aM_0 dX12_qDropsToBracket_1 ?_
    refine lv_aload_n C.1 C.2.1 dX12_qDropsToBracket_4 rfl (lv_at hl 0 rfl) ?_
    refine ho_getI C cf12 fM_361 hR aM_0 dX12_qDropsToBracket_5 ?_
    refine lv_icmp_le (tgt := 35) C.1 C.2.1 dX12_qDropsToBracket_8 (by decide) (fun hc => ?_) (fun hc => ?_)
    · replace h := if_t h hc
      exact ho_vret C hR h dX12_qDropsToBracket_35
    · replace h := if_f h hc
      refine lv_aload_n C.1 C.2.1 dX12_qDropsToBracket_11 rfl (lv_at hl 0 rfl) ?_
      refine ho_getR (a' := 102) C cf12 fM_252 hR aM_0 rfl dX12_qDropsToBracket_12 ?_
      refine lv_aload_n C.1 C.2.1 dX12_qDropsToBracket_15 rfl (lv_at hl 0 rfl) ?_
      refine ho_getI C cf12 fM_355 hR aM_0 dX12_qDropsToBracket_16 ?_
      refine lv_iconst (v := (1 : Int32)) C.1 C.2.1 dX12_qDropsToBracket_19 (by decide) ?_
      refine lv_isub C.1 C.2.1 dX12_qDropsToBracket_20 ?_
      obtain ⟨v1, e1, hi1, h⟩ := ldI_ok h
      refine hr_ild C hR aM_102 hi1 e1 dX12_qDropsToBracket_21 ?_
      obtain ⟨r2, S2, h2, h⟩ := ob2_ok h
      refine hr_Si (v := r2) (S' := S2) (As := [.int v1]) (rest := []) C (c_X12_qIsBracket l E v1 _ _ h2) ys_X12_qIsBracket lk_RX12_610 rfl rfl hl.1 (Nat.le_of_ble_eq_true rfl) (by decide) (by decide) hR (ho_A hR) dX12_qDropsToBracket_22 (fun H locs hR => ?_)
      refine lv_if_ne (tgt := 35) C.1 C.2.1 dX12_qDropsToBracket_25 (by decide) (fun hc => ?_) (fun hc => ?_)
      · replace h := if_f h hc
        exact ho_vret C hR h dX12_qDropsToBracket_35
      · replace h := if_t h hc
        refine lv_aload_n C.1 C.2.1 dX12_qDropsToBracket_28 rfl (lv_at hl 0 rfl) ?_
        obtain ⟨S3, h3, h⟩ := ob_ok h
        refine hr_Vv (S' := S3) (As := []) (rest := []) C cf12 (c_X12_qDrops l E _ _ h3) yv_X12_qDrops lk_RX12_613 rfl aM_0 rfl rfl hl.1 (Nat.le_of_ble_eq_true rfl) (by decide) (by decide) hR (ho_A hR) dX12_qDropsToBracket_29 (fun H locs hR => ?_)
        refine lv_goto (tgt := 0) C.1 C.2.1 dX12_qDropsToBracket_32 (by decide) ?_
        exact ih S3 h _ _ _ hR (lv_sub hl [0] rfl)
def f_X12_qDropsToBracket (S : Hp) : Option Hp :=
  f_X12_qDropsToBracket_0 5000 S
set_option maxHeartbeats 4000000 in
set_option maxRecDepth 100000 in
theorem c_X12_qDropsToBracket (l : Launch) (E : Ev) (S : Hp) (r : Hp) (h : f_X12_qDropsToBracket S = some r) : ho_M l yM E yX12_qDropsToBracket cX12_qDropsToBracket 1 none 2 [.ref (E.2.1 0)] S (none, r) := by
  refine ho_in (by decide) (Nat.le_of_ble_eq_true rfl) ?_
  intro p e s m args below meth c C hR ls hl
  have C : ho_I p s m args meth c RX12 cX12_qDropsToBracket 1 none := C
  have hl : lv_has ls 1 [(0, .ref (E.2.1 0))] := hl
  unfold f_X12_qDropsToBracket at h
  exact w_X12_qDropsToBracket_0 C 5000 S h _ _ _ hR (lv_sub hl [0] rfl)
theorem dX12_qIsOn_0 : decode cX12_qIsOn 0 = .ok (.aload_n 0, 1) := by decide +kernel
theorem dX12_qIsOn_1 : decode cX12_qIsOn 1 = .ok (.getfield 355, 3) := by decide +kernel
theorem dX12_qIsOn_4 : decode cX12_qIsOn 4 = .ok (.ifCond .le 22, 3) := by decide +kernel
theorem dX12_qIsOn_7 : decode cX12_qIsOn 7 = .ok (.aload_n 0, 1) := by decide +kernel
theorem dX12_qIsOn_8 : decode cX12_qIsOn 8 = .ok (.getfield 252, 3) := by decide +kernel
theorem dX12_qIsOn_11 : decode cX12_qIsOn 11 = .ok (.aload_n 0, 1) := by decide +kernel
theorem dX12_qIsOn_12 : decode cX12_qIsOn 12 = .ok (.getfield 355, 3) := by decide +kernel
theorem dX12_qIsOn_15 : decode cX12_qIsOn 15 = .ok (.iconst 1, 1) := by decide +kernel
theorem dX12_qIsOn_16 : decode cX12_qIsOn 16 = .ok (.isub, 1) := by decide +kernel
theorem dX12_qIsOn_17 : decode cX12_qIsOn 17 = .ok (.iaload, 1) := by decide +kernel
theorem dX12_qIsOn_18 : decode cX12_qIsOn 18 = .ok (.iload_n 1, 1) := by decide +kernel
theorem dX12_qIsOn_19 : decode cX12_qIsOn 19 = .ok (.if_icmp .ne 7, 3) := by decide +kernel
theorem dX12_qIsOn_22 : decode cX12_qIsOn 22 = .ok (.iconst 1, 1) := by decide +kernel
theorem dX12_qIsOn_23 : decode cX12_qIsOn 23 = .ok (.goto 4, 3) := by decide +kernel
theorem dX12_qIsOn_26 : decode cX12_qIsOn 26 = .ok (.iconst 0, 1) := by decide +kernel
theorem dX12_qIsOn_27 : decode cX12_qIsOn 27 = .ok (.ireturn, 1) := by decide +kernel
def f_X12_qIsOn (x1 : Int32) (S : Hp) : Option (Int32 × Hp) :=
  if (S.1 0 102) ≤ 0 then some ((0 : Int32), S) else ldI S 102 1700 ((S.1 0 102) - (1 : Int32)) (fun v1 => if v1 = x1 then some ((1 : Int32), S) else some ((0 : Int32), S))
set_option maxHeartbeats 4000000 in
set_option maxRecDepth 100000 in
theorem c_X12_qIsOn (l : Launch) (E : Ev) (x1 : Int32) (S : Hp) (r : (Int32 × Hp)) (h : f_X12_qIsOn x1 S = some r) : ho_M l yM E yX12_qIsOn cX12_qIsOn 2 (some .boolean) 0 [.ref (E.2.1 0), .int x1] S (some (.int r.1), r.2) := by
  refine ho_in (by decide) (Nat.le_of_ble_eq_true rfl) ?_
  intro p e s m args below meth c C hR ls hl
  have C : ho_I p s m args meth c RX12 cX12_qIsOn 2 (some .boolean) := C
  have hl : lv_has ls 2 [(0, .ref (E.2.1 0)), (1, .int x1)] := hl
  unfold f_X12_qIsOn at h
  refine lv_aload_n C.1 C.2.1 dX12_qIsOn_0 rfl (lv_at hl 0 rfl) ?_
  refine ho_getI C cf12 fM_355 hR aM_0 dX12_qIsOn_1 ?_
  refine lv_if_le (tgt := 26) C.1 C.2.1 dX12_qIsOn_4 (by decide) (fun hc => ?_) (fun hc => ?_)
  · replace h := if_t h hc
    refine lv_iconst (v := (0 : Int32)) C.1 C.2.1 dX12_qIsOn_26 (by decide) ?_
    exact ho_zret C hR (Or.inl rfl) h dX12_qIsOn_27
  · replace h := if_f h hc
    refine lv_aload_n C.1 C.2.1 dX12_qIsOn_7 rfl (lv_at hl 0 rfl) ?_
    refine ho_getR (a' := 102) C cf12 fM_252 hR aM_0 rfl dX12_qIsOn_8 ?_
    refine lv_aload_n C.1 C.2.1 dX12_qIsOn_11 rfl (lv_at hl 0 rfl) ?_
    refine ho_getI C cf12 fM_355 hR aM_0 dX12_qIsOn_12 ?_
    refine lv_iconst (v := (1 : Int32)) C.1 C.2.1 dX12_qIsOn_15 (by decide) ?_
    refine lv_isub C.1 C.2.1 dX12_qIsOn_16 ?_
    obtain ⟨v1, e1, hi1, h⟩ := ldI_ok h
    refine hr_ild C hR aM_102 hi1 e1 dX12_qIsOn_17 ?_
    refine lv_iload_n C.1 C.2.1 dX12_qIsOn_18 rfl (lv_at hl 1 rfl) ?_
    refine lv_icmp_ne (tgt := 26) C.1 C.2.1 dX12_qIsOn_19 (by decide) (fun hc => ?_) (fun hc => ?_)
    · replace h := if_f h hc
      refine lv_iconst (v := (0 : Int32)) C.1 C.2.1 dX12_qIsOn_26 (by decide) ?_
      exact ho_zret C hR (Or.inl rfl) h dX12_qIsOn_27
    · replace h := if_t h hc
      refine lv_iconst (v := (1 : Int32)) C.1 C.2.1 dX12_qIsOn_22 (by decide) ?_
      refine lv_goto (tgt := 27) C.1 C.2.1 dX12_qIsOn_23 (by decide) ?_
      exact ho_zret C hR (Or.inr rfl) h dX12_qIsOn_27
theorem dX12_qGoesOn_0 : decode cX12_qGoesOn 0 = .ok (.aload_n 0, 1) := by decide +kernel
theorem dX12_qGoesOn_1 : decode cX12_qGoesOn 1 = .ok (.getfield 264, 3) := by decide +kernel
theorem dX12_qGoesOn_4 : decode cX12_qGoesOn 4 = .ok (.ifCond .ne 118, 3) := by decide +kernel
theorem dX12_qGoesOn_7 : decode cX12_qGoesOn 7 = .ok (.aload_n 0, 1) := by decide +kernel
theorem dX12_qGoesOn_8 : decode cX12_qGoesOn 8 = .ok (.invokevirtual 276, 3) := by decide +kernel
theorem dX12_qGoesOn_11 : decode cX12_qGoesOn 11 = .ok (.bipush 41, 2) := by decide +kernel
theorem dX12_qGoesOn_13 : decode cX12_qGoesOn 13 = .ok (.if_icmp .ne 109, 3) := by decide +kernel
theorem dX12_qGoesOn_16 : decode cX12_qGoesOn 16 = .ok (.aload_n 0, 1) := by decide +kernel
theorem dX12_qGoesOn_17 : decode cX12_qGoesOn 17 = .ok (.invokevirtual 634, 3) := by decide +kernel
theorem dX12_qGoesOn_20 : decode cX12_qGoesOn 20 = .ok (.bipush 20, 2) := by decide +kernel
theorem dX12_qGoesOn_22 : decode cX12_qGoesOn 22 = .ok (.if_icmp .eq 21, 3) := by decide +kernel
theorem dX12_qGoesOn_25 : decode cX12_qGoesOn 25 = .ok (.aload_n 0, 1) := by decide +kernel
theorem dX12_qGoesOn_26 : decode cX12_qGoesOn 26 = .ok (.invokevirtual 634, 3) := by decide +kernel
theorem dX12_qGoesOn_29 : decode cX12_qGoesOn 29 = .ok (.bipush 23, 2) := by decide +kernel
theorem dX12_qGoesOn_31 : decode cX12_qGoesOn 31 = .ok (.if_icmp .eq 12, 3) := by decide +kernel
theorem dX12_qGoesOn_34 : decode cX12_qGoesOn 34 = .ok (.aload_n 0, 1) := by decide +kernel
theorem dX12_qGoesOn_35 : decode cX12_qGoesOn 35 = .ok (.invokevirtual 634, 3) := by decide +kernel
theorem dX12_qGoesOn_38 : decode cX12_qGoesOn 38 = .ok (.bipush 24, 2) := by decide +kernel
theorem dX12_qGoesOn_40 : decode cX12_qGoesOn 40 = .ok (.if_icmp .ne 82, 3) := by decide +kernel
theorem dX12_qGoesOn_43 : decode cX12_qGoesOn 43 = .ok (.aload_n 0, 1) := by decide +kernel
theorem dX12_qGoesOn_44 : decode cX12_qGoesOn 44 = .ok (.dup, 1) := by decide +kernel
theorem dX12_qGoesOn_45 : decode cX12_qGoesOn 45 = .ok (.getfield 270, 3) := by decide +kernel
theorem dX12_qGoesOn_48 : decode cX12_qGoesOn 48 = .ok (.iconst 1, 1) := by decide +kernel
theorem dX12_qGoesOn_49 : decode cX12_qGoesOn 49 = .ok (.iadd, 1) := by decide +kernel
theorem dX12_qGoesOn_50 : decode cX12_qGoesOn 50 = .ok (.putfield 270, 3) := by decide +kernel
theorem dX12_qGoesOn_53 : decode cX12_qGoesOn 53 = .ok (.aload_n 0, 1) := by decide +kernel
theorem dX12_qGoesOn_54 : decode cX12_qGoesOn 54 = .ok (.invokevirtual 637, 3) := by decide +kernel
theorem dX12_qGoesOn_57 : decode cX12_qGoesOn 57 = .ok (.aload_n 0, 1) := by decide +kernel
theorem dX12_qGoesOn_58 : decode cX12_qGoesOn 58 = .ok (.dup, 1) := by decide +kernel
theorem dX12_qGoesOn_59 : decode cX12_qGoesOn 59 = .ok (.getfield 355, 3) := by decide +kernel
theorem dX12_qGoesOn_62 : decode cX12_qGoesOn 62 = .ok (.iconst 1, 1) := by decide +kernel
theorem dX12_qGoesOn_63 : decode cX12_qGoesOn 63 = .ok (.isub, 1) := by decide +kernel
theorem dX12_qGoesOn_64 : decode cX12_qGoesOn 64 = .ok (.putfield 355, 3) := by decide +kernel
theorem dX12_qGoesOn_67 : decode cX12_qGoesOn 67 = .ok (.aload_n 0, 1) := by decide +kernel
theorem dX12_qGoesOn_68 : decode cX12_qGoesOn 68 = .ok (.dup, 1) := by decide +kernel
theorem dX12_qGoesOn_69 : decode cX12_qGoesOn 69 = .ok (.getfield 358, 3) := by decide +kernel
theorem dX12_qGoesOn_72 : decode cX12_qGoesOn 72 = .ok (.iconst 1, 1) := by decide +kernel
theorem dX12_qGoesOn_73 : decode cX12_qGoesOn 73 = .ok (.isub, 1) := by decide +kernel
theorem dX12_qGoesOn_74 : decode cX12_qGoesOn 74 = .ok (.putfield 358, 3) := by decide +kernel
theorem dX12_qGoesOn_77 : decode cX12_qGoesOn 77 = .ok (.aload_n 0, 1) := by decide +kernel
theorem dX12_qGoesOn_78 : decode cX12_qGoesOn 78 = .ok (.getfield 252, 3) := by decide +kernel
theorem dX12_qGoesOn_81 : decode cX12_qGoesOn 81 = .ok (.aload_n 0, 1) := by decide +kernel
theorem dX12_qGoesOn_82 : decode cX12_qGoesOn 82 = .ok (.getfield 355, 3) := by decide +kernel
theorem dX12_qGoesOn_85 : decode cX12_qGoesOn 85 = .ok (.iaload, 1) := by decide +kernel
theorem dX12_qGoesOn_86 : decode cX12_qGoesOn 86 = .ok (.bipush 20, 2) := by decide +kernel
theorem dX12_qGoesOn_88 : decode cX12_qGoesOn 88 = .ok (.if_icmp .eq 27, 3) := by decide +kernel
theorem dX12_qGoesOn_91 : decode cX12_qGoesOn 91 = .ok (.aload_n 0, 1) := by decide +kernel
theorem dX12_qGoesOn_92 : decode cX12_qGoesOn 92 = .ok (.aload_n 0, 1) := by decide +kernel
theorem dX12_qGoesOn_93 : decode cX12_qGoesOn 93 = .ok (.getfield 252, 3) := by decide +kernel
theorem dX12_qGoesOn_96 : decode cX12_qGoesOn 96 = .ok (.aload_n 0, 1) := by decide +kernel
theorem dX12_qGoesOn_97 : decode cX12_qGoesOn 97 = .ok (.getfield 355, 3) := by decide +kernel
theorem dX12_qGoesOn_100 : decode cX12_qGoesOn 100 = .ok (.iaload, 1) := by decide +kernel
theorem dX12_qGoesOn_101 : decode cX12_qGoesOn 101 = .ok (.bipush 23, 2) := by decide +kernel
theorem dX12_qGoesOn_103 : decode cX12_qGoesOn 103 = .ok (.if_icmp .ne 7, 3) := by decide +kernel
theorem dX12_qGoesOn_106 : decode cX12_qGoesOn 106 = .ok (.iconst 5, 1) := by decide +kernel
theorem dX12_qGoesOn_107 : decode cX12_qGoesOn 107 = .ok (.goto 5, 3) := by decide +kernel
theorem dX12_qGoesOn_110 : decode cX12_qGoesOn 110 = .ok (.bipush 6, 2) := by decide +kernel
theorem dX12_qGoesOn_112 : decode cX12_qGoesOn 112 = .ok (.invokevirtual 607, 3) := by decide +kernel
theorem dX12_qGoesOn_115 : decode cX12_qGoesOn 115 = .ok (.aload_n 0, 1) := by decide +kernel
theorem dX12_qGoesOn_116 : decode cX12_qGoesOn 116 = .ok (.invokevirtual 631, 3) := by decide +kernel
theorem dX12_qGoesOn_119 : decode cX12_qGoesOn 119 = .ok (.goto (-119), 3) := by decide +kernel
theorem dX12_qGoesOn_122 : decode cX12_qGoesOn 122 = .ok (.aload_n 0, 1) := by decide +kernel
theorem dX12_qGoesOn_123 : decode cX12_qGoesOn 123 = .ok (.bipush 42, 2) := by decide +kernel
theorem dX12_qGoesOn_125 : decode cX12_qGoesOn 125 = .ok (.invokevirtual 298, 3) := by decide +kernel
theorem dX12_qGoesOn_128 : decode cX12_qGoesOn 128 = .ok (.ifCond .ne 12, 3) := by decide +kernel
theorem dX12_qGoesOn_131 : decode cX12_qGoesOn 131 = .ok (.aload_n 0, 1) := by decide +kernel
theorem dX12_qGoesOn_132 : decode cX12_qGoesOn 132 = .ok (.bipush 47, 2) := by decide +kernel
theorem dX12_qGoesOn_134 : decode cX12_qGoesOn 134 = .ok (.invokevirtual 298, 3) := by decide +kernel
theorem dX12_qGoesOn_137 : decode cX12_qGoesOn 137 = .ok (.ifCond .eq 70, 3) := by decide +kernel
theorem dX12_qGoesOn_140 : decode cX12_qGoesOn 140 = .ok (.aload_n 0, 1) := by decide +kernel
theorem dX12_qGoesOn_141 : decode cX12_qGoesOn 141 = .ok (.getfield 7, 3) := by decide +kernel
theorem dX12_qGoesOn_144 : decode cX12_qGoesOn 144 = .ok (.aload_n 0, 1) := by decide +kernel
theorem dX12_qGoesOn_145 : decode cX12_qGoesOn 145 = .ok (.getfield 270, 3) := by decide +kernel
theorem dX12_qGoesOn_148 : decode cX12_qGoesOn 148 = .ok (.iconst 1, 1) := by decide +kernel
theorem dX12_qGoesOn_149 : decode cX12_qGoesOn 149 = .ok (.isub, 1) := by decide +kernel
theorem dX12_qGoesOn_150 : decode cX12_qGoesOn 150 = .ok (.iaload, 1) := by decide +kernel
theorem dX12_qGoesOn_151 : decode cX12_qGoesOn 151 = .ok (.bipush 42, 2) := by decide +kernel
theorem dX12_qGoesOn_153 : decode cX12_qGoesOn 153 = .ok (.if_icmp .ne 7, 3) := by decide +kernel
theorem dX12_qGoesOn_156 : decode cX12_qGoesOn 156 = .ok (.iconst 3, 1) := by decide +kernel
theorem dX12_qGoesOn_157 : decode cX12_qGoesOn 157 = .ok (.goto 4, 3) := by decide +kernel
theorem dX12_qGoesOn_160 : decode cX12_qGoesOn 160 = .ok (.iconst 4, 1) := by decide +kernel
theorem dX12_qGoesOn_161 : decode cX12_qGoesOn 161 = .ok (.istore_n 1, 1) := by decide +kernel
theorem dX12_qGoesOn_162 : decode cX12_qGoesOn 162 = .ok (.aload_n 0, 1) := by decide +kernel
theorem dX12_qGoesOn_163 : decode cX12_qGoesOn 163 = .ok (.iconst 3, 1) := by decide +kernel
theorem dX12_qGoesOn_164 : decode cX12_qGoesOn 164 = .ok (.invokevirtual 640, 3) := by decide +kernel
theorem dX12_qGoesOn_167 : decode cX12_qGoesOn 167 = .ok (.ifCond .ne 11, 3) := by decide +kernel
theorem dX12_qGoesOn_170 : decode cX12_qGoesOn 170 = .ok (.aload_n 0, 1) := by decide +kernel
theorem dX12_qGoesOn_171 : decode cX12_qGoesOn 171 = .ok (.iconst 4, 1) := by decide +kernel
theorem dX12_qGoesOn_172 : decode cX12_qGoesOn 172 = .ok (.invokevirtual 640, 3) := by decide +kernel
theorem dX12_qGoesOn_175 : decode cX12_qGoesOn 175 = .ok (.ifCond .eq 10, 3) := by decide +kernel
theorem dX12_qGoesOn_178 : decode cX12_qGoesOn 178 = .ok (.aload_n 0, 1) := by decide +kernel
theorem dX12_qGoesOn_179 : decode cX12_qGoesOn 179 = .ok (.invokevirtual 613, 3) := by decide +kernel
theorem dX12_qGoesOn_182 : decode cX12_qGoesOn 182 = .ok (.goto (-20), 3) := by decide +kernel
theorem dX12_qGoesOn_185 : decode cX12_qGoesOn 185 = .ok (.aload_n 0, 1) := by decide +kernel
theorem dX12_qGoesOn_186 : decode cX12_qGoesOn 186 = .ok (.getfield 252, 3) := by decide +kernel
theorem dX12_qGoesOn_189 : decode cX12_qGoesOn 189 = .ok (.aload_n 0, 1) := by decide +kernel
theorem dX12_qGoesOn_190 : decode cX12_qGoesOn 190 = .ok (.getfield 355, 3) := by decide +kernel
theorem dX12_qGoesOn_193 : decode cX12_qGoesOn 193 = .ok (.iload_n 1, 1) := by decide +kernel
theorem dX12_qGoesOn_194 : decode cX12_qGoesOn 194 = .ok (.iastore, 1) := by decide +kernel
theorem dX12_qGoesOn_195 : decode cX12_qGoesOn 195 = .ok (.aload_n 0, 1) := by decide +kernel
theorem dX12_qGoesOn_196 : decode cX12_qGoesOn 196 = .ok (.dup, 1) := by decide +kernel
theorem dX12_qGoesOn_197 : decode cX12_qGoesOn 197 = .ok (.getfield 355, 3) := by decide +kernel
theorem dX12_qGoesOn_200 : decode cX12_qGoesOn 200 = .ok (.iconst 1, 1) := by decide +kernel
theorem dX12_qGoesOn_201 : decode cX12_qGoesOn 201 = .ok (.iadd, 1) := by decide +kernel
theorem dX12_qGoesOn_202 : decode cX12_qGoesOn 202 = .ok (.putfield 355, 3) := by decide +kernel
theorem dX12_qGoesOn_205 : decode cX12_qGoesOn 205 = .ok (.iconst 1, 1) := by decide +kernel
theorem dX12_qGoesOn_206 : decode cX12_qGoesOn 206 = .ok (.ireturn, 1) := by decide +kernel
theorem dX12_qGoesOn_207 : decode cX12_qGoesOn 207 = .ok (.aload_n 0, 1) := by decide +kernel
theorem dX12_qGoesOn_208 : decode cX12_qGoesOn 208 = .ok (.bipush 43, 2) := by decide +kernel
theorem dX12_qGoesOn_210 : decode cX12_qGoesOn 210 = .ok (.invokevirtual 298, 3) := by decide +kernel
theorem dX12_qGoesOn_213 : decode cX12_qGoesOn 213 = .ok (.ifCond .ne 12, 3) := by decide +kernel
theorem dX12_qGoesOn_216 : decode cX12_qGoesOn 216 = .ok (.aload_n 0, 1) := by decide +kernel
theorem dX12_qGoesOn_217 : decode cX12_qGoesOn 217 = .ok (.bipush 45, 2) := by decide +kernel
theorem dX12_qGoesOn_219 : decode cX12_qGoesOn 219 = .ok (.invokevirtual 298, 3) := by decide +kernel
theorem dX12_qGoesOn_222 : decode cX12_qGoesOn 222 = .ok (.ifCond .eq 86, 3) := by decide +kernel
theorem dX12_qGoesOn_225 : decode cX12_qGoesOn 225 = .ok (.aload_n 0, 1) := by decide +kernel
theorem dX12_qGoesOn_226 : decode cX12_qGoesOn 226 = .ok (.getfield 7, 3) := by decide +kernel
theorem dX12_qGoesOn_229 : decode cX12_qGoesOn 229 = .ok (.aload_n 0, 1) := by decide +kernel
theorem dX12_qGoesOn_230 : decode cX12_qGoesOn 230 = .ok (.getfield 270, 3) := by decide +kernel
theorem dX12_qGoesOn_233 : decode cX12_qGoesOn 233 = .ok (.iconst 1, 1) := by decide +kernel
theorem dX12_qGoesOn_234 : decode cX12_qGoesOn 234 = .ok (.isub, 1) := by decide +kernel
theorem dX12_qGoesOn_235 : decode cX12_qGoesOn 235 = .ok (.iaload, 1) := by decide +kernel
theorem dX12_qGoesOn_236 : decode cX12_qGoesOn 236 = .ok (.bipush 43, 2) := by decide +kernel
theorem dX12_qGoesOn_238 : decode cX12_qGoesOn 238 = .ok (.if_icmp .ne 7, 3) := by decide +kernel
theorem dX12_qGoesOn_241 : decode cX12_qGoesOn 241 = .ok (.iconst 1, 1) := by decide +kernel
theorem dX12_qGoesOn_242 : decode cX12_qGoesOn 242 = .ok (.goto 4, 3) := by decide +kernel
theorem dX12_qGoesOn_245 : decode cX12_qGoesOn 245 = .ok (.iconst 2, 1) := by decide +kernel
theorem dX12_qGoesOn_246 : decode cX12_qGoesOn 246 = .ok (.istore_n 1, 1) := by decide +kernel
theorem dX12_qGoesOn_247 : decode cX12_qGoesOn 247 = .ok (.aload_n 0, 1) := by decide +kernel
theorem dX12_qGoesOn_248 : decode cX12_qGoesOn 248 = .ok (.iconst 3, 1) := by decide +kernel
theorem dX12_qGoesOn_249 : decode cX12_qGoesOn 249 = .ok (.invokevirtual 640, 3) := by decide +kernel
theorem dX12_qGoesOn_252 : decode cX12_qGoesOn 252 = .ok (.ifCond .ne 27, 3) := by decide +kernel
theorem dX12_qGoesOn_255 : decode cX12_qGoesOn 255 = .ok (.aload_n 0, 1) := by decide +kernel
theorem dX12_qGoesOn_256 : decode cX12_qGoesOn 256 = .ok (.iconst 4, 1) := by decide +kernel
theorem dX12_qGoesOn_257 : decode cX12_qGoesOn 257 = .ok (.invokevirtual 640, 3) := by decide +kernel
theorem dX12_qGoesOn_260 : decode cX12_qGoesOn 260 = .ok (.ifCond .ne 19, 3) := by decide +kernel
theorem dX12_qGoesOn_263 : decode cX12_qGoesOn 263 = .ok (.aload_n 0, 1) := by decide +kernel
theorem dX12_qGoesOn_264 : decode cX12_qGoesOn 264 = .ok (.iconst 1, 1) := by decide +kernel
theorem dX12_qGoesOn_265 : decode cX12_qGoesOn 265 = .ok (.invokevirtual 640, 3) := by decide +kernel
theorem dX12_qGoesOn_268 : decode cX12_qGoesOn 268 = .ok (.ifCond .ne 11, 3) := by decide +kernel
theorem dX12_qGoesOn_271 : decode cX12_qGoesOn 271 = .ok (.aload_n 0, 1) := by decide +kernel
theorem dX12_qGoesOn_272 : decode cX12_qGoesOn 272 = .ok (.iconst 2, 1) := by decide +kernel
theorem dX12_qGoesOn_273 : decode cX12_qGoesOn 273 = .ok (.invokevirtual 640, 3) := by decide +kernel
theorem dX12_qGoesOn_276 : decode cX12_qGoesOn 276 = .ok (.ifCond .eq 10, 3) := by decide +kernel
theorem dX12_qGoesOn_279 : decode cX12_qGoesOn 279 = .ok (.aload_n 0, 1) := by decide +kernel
theorem dX12_qGoesOn_280 : decode cX12_qGoesOn 280 = .ok (.invokevirtual 613, 3) := by decide +kernel
theorem dX12_qGoesOn_283 : decode cX12_qGoesOn 283 = .ok (.goto (-36), 3) := by decide +kernel
theorem dX12_qGoesOn_286 : decode cX12_qGoesOn 286 = .ok (.aload_n 0, 1) := by decide +kernel
theorem dX12_qGoesOn_287 : decode cX12_qGoesOn 287 = .ok (.getfield 252, 3) := by decide +kernel
theorem dX12_qGoesOn_290 : decode cX12_qGoesOn 290 = .ok (.aload_n 0, 1) := by decide +kernel
theorem dX12_qGoesOn_291 : decode cX12_qGoesOn 291 = .ok (.getfield 355, 3) := by decide +kernel
theorem dX12_qGoesOn_294 : decode cX12_qGoesOn 294 = .ok (.iload_n 1, 1) := by decide +kernel
theorem dX12_qGoesOn_295 : decode cX12_qGoesOn 295 = .ok (.iastore, 1) := by decide +kernel
theorem dX12_qGoesOn_296 : decode cX12_qGoesOn 296 = .ok (.aload_n 0, 1) := by decide +kernel
theorem dX12_qGoesOn_297 : decode cX12_qGoesOn 297 = .ok (.dup, 1) := by decide +kernel
theorem dX12_qGoesOn_298 : decode cX12_qGoesOn 298 = .ok (.getfield 355, 3) := by decide +kernel
theorem dX12_qGoesOn_301 : decode cX12_qGoesOn 301 = .ok (.iconst 1, 1) := by decide +kernel
theorem dX12_qGoesOn_302 : decode cX12_qGoesOn 302 = .ok (.iadd, 1) := by decide +kernel
theorem dX12_qGoesOn_303 : decode cX12_qGoesOn 303 = .ok (.putfield 355, 3) := by decide +kernel
theorem dX12_qGoesOn_306 : decode cX12_qGoesOn 306 = .ok (.iconst 1, 1) := by decide +kernel
theorem dX12_qGoesOn_307 : decode cX12_qGoesOn 307 = .ok (.ireturn, 1) := by decide +kernel
theorem dX12_qGoesOn_308 : decode cX12_qGoesOn 308 = .ok (.aload_n 0, 1) := by decide +kernel
theorem dX12_qGoesOn_309 : decode cX12_qGoesOn 309 = .ok (.invokevirtual 634, 3) := by decide +kernel
theorem dX12_qGoesOn_312 : decode cX12_qGoesOn 312 = .ok (.bipush 21, 2) := by decide +kernel
theorem dX12_qGoesOn_314 : decode cX12_qGoesOn 314 = .ok (.if_icmp .eq 12, 3) := by decide +kernel
theorem dX12_qGoesOn_317 : decode cX12_qGoesOn 317 = .ok (.aload_n 0, 1) := by decide +kernel
theorem dX12_qGoesOn_318 : decode cX12_qGoesOn 318 = .ok (.invokevirtual 634, 3) := by decide +kernel
theorem dX12_qGoesOn_321 : decode cX12_qGoesOn 321 = .ok (.bipush 22, 2) := by decide +kernel
theorem dX12_qGoesOn_323 : decode cX12_qGoesOn 323 = .ok (.if_icmp .ne 39, 3) := by decide +kernel
theorem dX12_qGoesOn_326 : decode cX12_qGoesOn 326 = .ok (.aload_n 0, 1) := by decide +kernel
theorem dX12_qGoesOn_327 : decode cX12_qGoesOn 327 = .ok (.bipush 44, 2) := by decide +kernel
theorem dX12_qGoesOn_329 : decode cX12_qGoesOn 329 = .ok (.invokevirtual 338, 3) := by decide +kernel
theorem dX12_qGoesOn_332 : decode cX12_qGoesOn 332 = .ok (.aload_n 0, 1) := by decide +kernel
theorem dX12_qGoesOn_333 : decode cX12_qGoesOn 333 = .ok (.getfield 264, 3) := by decide +kernel
theorem dX12_qGoesOn_336 : decode cX12_qGoesOn 336 = .ok (.ifCond .eq 5, 3) := by decide +kernel
theorem dX12_qGoesOn_339 : decode cX12_qGoesOn 339 = .ok (.iconst 0, 1) := by decide +kernel
theorem dX12_qGoesOn_340 : decode cX12_qGoesOn 340 = .ok (.ireturn, 1) := by decide +kernel
theorem dX12_qGoesOn_341 : decode cX12_qGoesOn 341 = .ok (.aload_n 0, 1) := by decide +kernel
theorem dX12_qGoesOn_342 : decode cX12_qGoesOn 342 = .ok (.invokevirtual 637, 3) := by decide +kernel
theorem dX12_qGoesOn_345 : decode cX12_qGoesOn 345 = .ok (.aload_n 0, 1) := by decide +kernel
theorem dX12_qGoesOn_346 : decode cX12_qGoesOn 346 = .ok (.getfield 252, 3) := by decide +kernel
theorem dX12_qGoesOn_349 : decode cX12_qGoesOn 349 = .ok (.aload_n 0, 1) := by decide +kernel
theorem dX12_qGoesOn_350 : decode cX12_qGoesOn 350 = .ok (.getfield 355, 3) := by decide +kernel
theorem dX12_qGoesOn_353 : decode cX12_qGoesOn 353 = .ok (.iconst 1, 1) := by decide +kernel
theorem dX12_qGoesOn_354 : decode cX12_qGoesOn 354 = .ok (.isub, 1) := by decide +kernel
theorem dX12_qGoesOn_355 : decode cX12_qGoesOn 355 = .ok (.dup2, 1) := by decide +kernel
theorem dX12_qGoesOn_356 : decode cX12_qGoesOn 356 = .ok (.iaload, 1) := by decide +kernel
theorem dX12_qGoesOn_357 : decode cX12_qGoesOn 357 = .ok (.iconst 2, 1) := by decide +kernel
theorem dX12_qGoesOn_358 : decode cX12_qGoesOn 358 = .ok (.iadd, 1) := by decide +kernel
theorem dX12_qGoesOn_359 : decode cX12_qGoesOn 359 = .ok (.iastore, 1) := by decide +kernel
theorem dX12_qGoesOn_360 : decode cX12_qGoesOn 360 = .ok (.iconst 1, 1) := by decide +kernel
theorem dX12_qGoesOn_361 : decode cX12_qGoesOn 361 = .ok (.ireturn, 1) := by decide +kernel
theorem dX12_qGoesOn_362 : decode cX12_qGoesOn 362 = .ok (.aload_n 0, 1) := by decide +kernel
theorem dX12_qGoesOn_363 : decode cX12_qGoesOn 363 = .ok (.invokevirtual 634, 3) := by decide +kernel
theorem dX12_qGoesOn_366 : decode cX12_qGoesOn 366 = .ok (.iconst (-1), 1) := by decide +kernel
theorem dX12_qGoesOn_367 : decode cX12_qGoesOn 367 = .ok (.if_icmp .eq 19, 3) := by decide +kernel
theorem dX12_qGoesOn_370 : decode cX12_qGoesOn 370 = .ok (.aload_n 0, 1) := by decide +kernel
theorem dX12_qGoesOn_371 : decode cX12_qGoesOn 371 = .ok (.getfield 264, 3) := by decide +kernel
theorem dX12_qGoesOn_374 : decode cX12_qGoesOn 374 = .ok (.ifCond .ne 12, 3) := by decide +kernel
theorem dX12_qGoesOn_377 : decode cX12_qGoesOn 377 = .ok (.aload_n 0, 1) := by decide +kernel
theorem dX12_qGoesOn_378 : decode cX12_qGoesOn 378 = .ok (.iconst 1, 1) := by decide +kernel
theorem dX12_qGoesOn_379 : decode cX12_qGoesOn 379 = .ok (.aload_n 0, 1) := by decide +kernel
theorem dX12_qGoesOn_380 : decode cX12_qGoesOn 380 = .ok (.getfield 270, 3) := by decide +kernel
theorem dX12_qGoesOn_383 : decode cX12_qGoesOn 383 = .ok (.invokevirtual 294, 3) := by decide +kernel
theorem dX12_qGoesOn_386 : decode cX12_qGoesOn 386 = .ok (.iconst 0, 1) := by decide +kernel
theorem dX12_qGoesOn_387 : decode cX12_qGoesOn 387 = .ok (.ireturn, 1) := by decide +kernel
def f_X12_qGoesOn_178 (K162 : Int32 → Hp → Option (Int32 × Hp)) (x1 : Int32) (S : Hp) : Option (Int32 × Hp) :=
  ob (f_X12_qDrops S) (fun S1 => K162 x1 S1)
set_option maxHeartbeats 4000000 in
set_option maxRecDepth 100000 in
theorem w_X12_qGoesOn_178 {p : Program} {l : Launch} {e : Env} {s : State} {m : MethodId} {args : Array Value} {below : List Frame} {meth : Method} {c : Code} {E : Ev} {S0 : Hp} {r : (Int32 × Hp)} (C : ho_I p s m args meth c RX12 cX12_qGoesOn 2 (some .boolean)) (K162 : Int32 → Hp → Option (Int32 × Hp)) (hK162 : ∀ (y1 : Int32) (S : Hp), K162 y1 S = some r → ho_G p l e s m args below meth c yM E S0 3 2 (some (.int r.1), r.2) 162 [(0, .ref (E.2.1 0)), (1, .int y1)] [] S) :
    ∀ (x1 : Int32) (S : Hp), f_X12_qGoesOn_178 K162 x1 S = some r → ho_G p l e s m args below meth c yM E S0 3 2 (some (.int r.1), r.2) 178 [(0, .ref (E.2.1 0)), (1, .int x1)] [] S := by
  intro x1 S h H locs ls hR hl
  unfold f_X12_qGoesOn_178 at h
  refine lv_aload_n C.1 C.2.1 dX12_qGoesOn_178 rfl (lv_at hl 0 rfl) ?_
  obtain ⟨S1, h1, h⟩ := ob_ok h
  refine hr_Vv (S' := S1) (As := []) (rest := []) C cf12 (c_X12_qDrops l E _ _ h1) yv_X12_qDrops lk_RX12_613 rfl aM_0 rfl rfl hl.1 (Nat.le_of_ble_eq_true rfl) (by decide) (by decide) hR (ho_A hR) dX12_qGoesOn_179 (fun H locs hR => ?_)
  refine lv_goto (tgt := 162) C.1 C.2.1 dX12_qGoesOn_182 (by decide) ?_
  exact hK162 x1 S1 h _ _ _ hR (lv_sub hl [0, 1] rfl)
def f_X12_qGoesOn_162 : Nat → Int32 → Hp → Option (Int32 × Hp)
  | 0, _, _ => none
  | k + 1, x1, S => ob2 (f_X12_qIsOn (3 : Int32) S) (fun r1 S1 => if r1 = 0 then ob2 (f_X12_qIsOn (4 : Int32) S1) (fun r2 S2 => if r2 = 0 then stI S2 102 1700 (S2.1 0 102) x1 (fun S3 => le1 (ho_sI S3 0 102 ((S3.1 0 102) + (1 : Int32))) (fun S4 => some ((1 : Int32), S4))) else f_X12_qGoesOn_178 (f_X12_qGoesOn_162 k) x1 S2) else f_X12_qGoesOn_178 (f_X12_qGoesOn_162 k) x1 S1)
set_option maxHeartbeats 4000000 in
set_option maxRecDepth 100000 in
theorem w_X12_qGoesOn_162 {p : Program} {l : Launch} {e : Env} {s : State} {m : MethodId} {args : Array Value} {below : List Frame} {meth : Method} {c : Code} {E : Ev} {S0 : Hp} {r : (Int32 × Hp)} (C : ho_I p s m args meth c RX12 cX12_qGoesOn 2 (some .boolean)) :
    ∀ (k : Nat) (x1 : Int32) (S : Hp), f_X12_qGoesOn_162 k x1 S = some r → ho_G p l e s m args below meth c yM E S0 3 2 (some (.int r.1), r.2) 162 [(0, .ref (E.2.1 0)), (1, .int x1)] [] S := by
  intro k
  induction k with
  | zero =>
    intro x1 S h
    exact absurd (show (none : Option (Int32 × Hp)) = some r from h) (by simp)
  | succ k ih =>
    intro x1 S h H locs ls hR hl
    rw [f_X12_qGoesOn_162] at h
    refine lv_aload_n C.1 C.2.1 dX12_qGoesOn_162 rfl (lv_at hl 0 rfl) ?_
    refine lv_iconst (v := (3 : Int32)) C.1 C.2.1 dX12_qGoesOn_163 (by decide) ?_
    obtain ⟨r1, S1, h1, h⟩ := ob2_ok h
    refine hr_Vi (v := r1) (S' := S1) (As := [.int (3 : Int32)]) (rest := []) C cf12 (c_X12_qIsOn l E (3 : Int32) _ _ h1) yv_X12_qIsOn lk_RX12_640 rfl aM_0 rfl rfl hl.1 (Nat.le_of_ble_eq_true rfl) (by decide) (by decide) hR (ho_A hR) dX12_qGoesOn_164 (fun H locs hR => ?_)
    refine lv_if_ne (tgt := 178) C.1 C.2.1 dX12_qGoesOn_167 (by decide) (fun hc => ?_) (fun hc => ?_)
    · replace h := if_f h hc
      exact w_X12_qGoesOn_178 C (f_X12_qGoesOn_162 k) ih x1 S1 h _ _ _ hR (lv_sub hl [0, 1] rfl)
    · replace h := if_t h hc
      refine lv_aload_n C.1 C.2.1 dX12_qGoesOn_170 rfl (lv_at hl 0 rfl) ?_
      refine lv_iconst (v := (4 : Int32)) C.1 C.2.1 dX12_qGoesOn_171 (by decide) ?_
      obtain ⟨r2, S2, h2, h⟩ := ob2_ok h
      refine hr_Vi (v := r2) (S' := S2) (As := [.int (4 : Int32)]) (rest := []) C cf12 (c_X12_qIsOn l E (4 : Int32) _ _ h2) yv_X12_qIsOn lk_RX12_640 rfl aM_0 rfl rfl hl.1 (Nat.le_of_ble_eq_true rfl) (by decide) (by decide) hR (ho_A hR) dX12_qGoesOn_172 (fun H locs hR => ?_)
      refine lv_if_eq (tgt := 185) C.1 C.2.1 dX12_qGoesOn_175 (by decide) (fun hc => ?_) (fun hc => ?_)
      · replace h := if_t h hc
        refine lv_aload_n C.1 C.2.1 dX12_qGoesOn_185 rfl (lv_at hl 0 rfl) ?_
        refine ho_getR (a' := 102) C cf12 fM_252 hR aM_0 rfl dX12_qGoesOn_186 ?_
        refine lv_aload_n C.1 C.2.1 dX12_qGoesOn_189 rfl (lv_at hl 0 rfl) ?_
        refine ho_getI C cf12 fM_355 hR aM_0 dX12_qGoesOn_190 ?_
        refine lv_iload_n C.1 C.2.1 dX12_qGoesOn_193 rfl (lv_at hl 1 rfl) ?_
        obtain ⟨S3, e3, hi3, h⟩ := stI_ok h
        refine hr_ist C hR aM_102 hi3 e3 dX12_qGoesOn_194 (fun H locs hR => ?_)
        refine lv_aload_n C.1 C.2.1 dX12_qGoesOn_195 rfl (lv_at hl 0 rfl) ?_
        refine lv_dup C.1 C.2.1 dX12_qGoesOn_196 rfl ?_
        refine ho_getI C cf12 fM_355 hR aM_0 dX12_qGoesOn_197 ?_
        refine lv_iconst (v := (1 : Int32)) C.1 C.2.1 dX12_qGoesOn_200 (by decide) ?_
        refine lv_iadd C.1 C.2.1 dX12_qGoesOn_201 ?_
        obtain ⟨S4, e4, h⟩ := le1_ok h
        refine hr_putI C cf12 fM_355 hR aM_0 e4 dX12_qGoesOn_202 (fun H locs hR => ?_)
        refine lv_iconst (v := (1 : Int32)) C.1 C.2.1 dX12_qGoesOn_205 (by decide) ?_
        exact ho_zret C hR (Or.inr rfl) h dX12_qGoesOn_206
      · replace h := if_f h hc
        exact w_X12_qGoesOn_178 C (f_X12_qGoesOn_162 k) ih x1 S2 h _ _ _ hR (lv_sub hl [0, 1] rfl)
def f_X12_qGoesOn_161 (z0 : Int32) (S : Hp) : Option (Int32 × Hp) :=
  f_X12_qGoesOn_162 5000 z0 S
set_option maxHeartbeats 4000000 in
set_option maxRecDepth 100000 in
theorem w_X12_qGoesOn_161 {p : Program} {l : Launch} {e : Env} {s : State} {m : MethodId} {args : Array Value} {below : List Frame} {meth : Method} {c : Code} {E : Ev} {S0 : Hp} {r : (Int32 × Hp)} (C : ho_I p s m args meth c RX12 cX12_qGoesOn 2 (some .boolean)) :
    ∀ (z0 : Int32) (S : Hp), f_X12_qGoesOn_161 z0 S = some r → ho_G p l e s m args below meth c yM E S0 3 2 (some (.int r.1), r.2) 161 [(0, .ref (E.2.1 0))] [.int z0] S := by
  intro z0 S h H locs ls hR hl
  unfold f_X12_qGoesOn_161 at h
  refine lv_istore_n (lv' := [(1, .int z0), (0, .ref (E.2.1 0))]) C.1 C.2.1 dX12_qGoesOn_161 rfl hl (by decide) rfl (fun ls hl => ?_)
  exact w_X12_qGoesOn_162 C 5000 z0 S h _ _ _ hR (lv_sub hl [1, 0] rfl)
def f_X12_qGoesOn_140 (S : Hp) : Option (Int32 × Hp) :=
  ldI S 1 1600 ((S.1 0 2) - (1 : Int32)) (fun v1 => if v1 = (42 : Int32) then f_X12_qGoesOn_161 (3 : Int32) S else f_X12_qGoesOn_161 (4 : Int32) S)
set_option maxHeartbeats 4000000 in
set_option maxRecDepth 100000 in
theorem w_X12_qGoesOn_140 {p : Program} {l : Launch} {e : Env} {s : State} {m : MethodId} {args : Array Value} {below : List Frame} {meth : Method} {c : Code} {E : Ev} {S0 : Hp} {r : (Int32 × Hp)} (C : ho_I p s m args meth c RX12 cX12_qGoesOn 2 (some .boolean)) :
    ∀ (S : Hp), f_X12_qGoesOn_140 S = some r → ho_G p l e s m args below meth c yM E S0 3 2 (some (.int r.1), r.2) 140 [(0, .ref (E.2.1 0))] [] S := by
  intro S h H locs ls hR hl
  unfold f_X12_qGoesOn_140 at h
  refine lv_aload_n C.1 C.2.1 dX12_qGoesOn_140 rfl (lv_at hl 0 rfl) ?_
  refine ho_getR (a' := 1) C cf12 fM_7 hR aM_0 rfl dX12_qGoesOn_141 ?_
  refine lv_aload_n C.1 C.2.1 dX12_qGoesOn_144 rfl (lv_at hl 0 rfl) ?_
  refine ho_getI C cf12 fM_270 hR aM_0 dX12_qGoesOn_145 ?_
  refine lv_iconst (v := (1 : Int32)) C.1 C.2.1 dX12_qGoesOn_148 (by decide) ?_
  refine lv_isub C.1 C.2.1 dX12_qGoesOn_149 ?_
  obtain ⟨v1, e1, hi1, h⟩ := ldI_ok h
  refine hr_ild C hR aM_1 hi1 e1 dX12_qGoesOn_150 ?_
  refine lv_bipush (v := (42 : Int32)) C.1 C.2.1 dX12_qGoesOn_151 (by decide) ?_
  refine lv_icmp_ne (tgt := 160) C.1 C.2.1 dX12_qGoesOn_153 (by decide) (fun hc => ?_) (fun hc => ?_)
  · replace h := if_f h hc
    refine lv_iconst (v := (4 : Int32)) C.1 C.2.1 dX12_qGoesOn_160 (by decide) ?_
    exact w_X12_qGoesOn_161 C (4 : Int32) S h _ _ _ hR (lv_sub hl [0] rfl)
  · replace h := if_t h hc
    refine lv_iconst (v := (3 : Int32)) C.1 C.2.1 dX12_qGoesOn_156 (by decide) ?_
    refine lv_goto (tgt := 161) C.1 C.2.1 dX12_qGoesOn_157 (by decide) ?_
    exact w_X12_qGoesOn_161 C (3 : Int32) S h _ _ _ hR (lv_sub hl [0] rfl)
def f_X12_qGoesOn_279 (K247 : Int32 → Hp → Option (Int32 × Hp)) (x1 : Int32) (S : Hp) : Option (Int32 × Hp) :=
  ob (f_X12_qDrops S) (fun S1 => K247 x1 S1)
set_option maxHeartbeats 4000000 in
set_option maxRecDepth 100000 in
theorem w_X12_qGoesOn_279 {p : Program} {l : Launch} {e : Env} {s : State} {m : MethodId} {args : Array Value} {below : List Frame} {meth : Method} {c : Code} {E : Ev} {S0 : Hp} {r : (Int32 × Hp)} (C : ho_I p s m args meth c RX12 cX12_qGoesOn 2 (some .boolean)) (K247 : Int32 → Hp → Option (Int32 × Hp)) (hK247 : ∀ (y1 : Int32) (S : Hp), K247 y1 S = some r → ho_G p l e s m args below meth c yM E S0 3 2 (some (.int r.1), r.2) 247 [(0, .ref (E.2.1 0)), (1, .int y1)] [] S) :
    ∀ (x1 : Int32) (S : Hp), f_X12_qGoesOn_279 K247 x1 S = some r → ho_G p l e s m args below meth c yM E S0 3 2 (some (.int r.1), r.2) 279 [(0, .ref (E.2.1 0)), (1, .int x1)] [] S := by
  intro x1 S h H locs ls hR hl
  unfold f_X12_qGoesOn_279 at h
  refine lv_aload_n C.1 C.2.1 dX12_qGoesOn_279 rfl (lv_at hl 0 rfl) ?_
  obtain ⟨S1, h1, h⟩ := ob_ok h
  refine hr_Vv (S' := S1) (As := []) (rest := []) C cf12 (c_X12_qDrops l E _ _ h1) yv_X12_qDrops lk_RX12_613 rfl aM_0 rfl rfl hl.1 (Nat.le_of_ble_eq_true rfl) (by decide) (by decide) hR (ho_A hR) dX12_qGoesOn_280 (fun H locs hR => ?_)
  refine lv_goto (tgt := 247) C.1 C.2.1 dX12_qGoesOn_283 (by decide) ?_
  exact hK247 x1 S1 h _ _ _ hR (lv_sub hl [0, 1] rfl)
def f_X12_qGoesOn_247 : Nat → Int32 → Hp → Option (Int32 × Hp)
  | 0, _, _ => none
  | k + 1, x1, S => ob2 (f_X12_qIsOn (3 : Int32) S) (fun r1 S1 => if r1 = 0 then ob2 (f_X12_qIsOn (4 : Int32) S1) (fun r2 S2 => if r2 = 0 then ob2 (f_X12_qIsOn (1 : Int32) S2) (fun r3 S3 => if r3 = 0 then ob2 (f_X12_qIsOn (2 : Int32) S3) (fun r4 S4 => if r4 = 0 then stI S4 102 1700 (S4.1 0 102) x1 (fun S5 => le1 (ho_sI S5 0 102 ((S5.1 0 102) + (1 : Int32))) (fun S6 => some ((1 : Int32), S6))) else f_X12_qGoesOn_279 (f_X12_qGoesOn_247 k) x1 S4) else f_X12_qGoesOn_279 (f_X12_qGoesOn_247 k) x1 S3) else f_X12_qGoesOn_279 (f_X12_qGoesOn_247 k) x1 S2) else f_X12_qGoesOn_279 (f_X12_qGoesOn_247 k) x1 S1)
set_option maxHeartbeats 4000000 in
set_option maxRecDepth 100000 in
theorem w_X12_qGoesOn_247 {p : Program} {l : Launch} {e : Env} {s : State} {m : MethodId} {args : Array Value} {below : List Frame} {meth : Method} {c : Code} {E : Ev} {S0 : Hp} {r : (Int32 × Hp)} (C : ho_I p s m args meth c RX12 cX12_qGoesOn 2 (some .boolean)) :
    ∀ (k : Nat) (x1 : Int32) (S : Hp), f_X12_qGoesOn_247 k x1 S = some r → ho_G p l e s m args below meth c yM E S0 3 2 (some (.int r.1), r.2) 247 [(0, .ref (E.2.1 0)), (1, .int x1)] [] S := by
  intro k
  induction k with
  | zero =>
    intro x1 S h
    exact absurd (show (none : Option (Int32 × Hp)) = some r from h) (by simp)
  | succ k ih =>
    intro x1 S h H locs ls hR hl
    rw [f_X12_qGoesOn_247] at h
    refine lv_aload_n C.1 C.2.1 dX12_qGoesOn_247 rfl (lv_at hl 0 rfl) ?_
    refine lv_iconst (v := (3 : Int32)) C.1 C.2.1 dX12_qGoesOn_248 (by decide) ?_
    obtain ⟨r1, S1, h1, h⟩ := ob2_ok h
    refine hr_Vi (v := r1) (S' := S1) (As := [.int (3 : Int32)]) (rest := []) C cf12 (c_X12_qIsOn l E (3 : Int32) _ _ h1) yv_X12_qIsOn lk_RX12_640 rfl aM_0 rfl rfl hl.1 (Nat.le_of_ble_eq_true rfl) (by decide) (by decide) hR (ho_A hR) dX12_qGoesOn_249 (fun H locs hR => ?_)
    refine lv_if_ne (tgt := 279) C.1 C.2.1 dX12_qGoesOn_252 (by decide) (fun hc => ?_) (fun hc => ?_)
    · replace h := if_f h hc
      exact w_X12_qGoesOn_279 C (f_X12_qGoesOn_247 k) ih x1 S1 h _ _ _ hR (lv_sub hl [0, 1] rfl)
    · replace h := if_t h hc
      refine lv_aload_n C.1 C.2.1 dX12_qGoesOn_255 rfl (lv_at hl 0 rfl) ?_
      refine lv_iconst (v := (4 : Int32)) C.1 C.2.1 dX12_qGoesOn_256 (by decide) ?_
      obtain ⟨r2, S2, h2, h⟩ := ob2_ok h
      refine hr_Vi (v := r2) (S' := S2) (As := [.int (4 : Int32)]) (rest := []) C cf12 (c_X12_qIsOn l E (4 : Int32) _ _ h2) yv_X12_qIsOn lk_RX12_640 rfl aM_0 rfl rfl hl.1 (Nat.le_of_ble_eq_true rfl) (by decide) (by decide) hR (ho_A hR) dX12_qGoesOn_257 (fun H locs hR => ?_)
      refine lv_if_ne (tgt := 279) C.1 C.2.1 dX12_qGoesOn_260 (by decide) (fun hc => ?_) (fun hc => ?_)
      · replace h := if_f h hc
        exact w_X12_qGoesOn_279 C (f_X12_qGoesOn_247 k) ih x1 S2 h _ _ _ hR (lv_sub hl [0, 1] rfl)
      · replace h := if_t h hc
        refine lv_aload_n C.1 C.2.1 dX12_qGoesOn_263 rfl (lv_at hl 0 rfl) ?_
        refine lv_iconst (v := (1 : Int32)) C.1 C.2.1 dX12_qGoesOn_264 (by decide) ?_
        obtain ⟨r3, S3, h3, h⟩ := ob2_ok h
        refine hr_Vi (v := r3) (S' := S3) (As := [.int (1 : Int32)]) (rest := []) C cf12 (c_X12_qIsOn l E (1 : Int32) _ _ h3) yv_X12_qIsOn lk_RX12_640 rfl aM_0 rfl rfl hl.1 (Nat.le_of_ble_eq_true rfl) (by decide) (by decide) hR (ho_A hR) dX12_qGoesOn_265 (fun H locs hR => ?_)
        refine lv_if_ne (tgt := 279) C.1 C.2.1 dX12_qGoesOn_268 (by decide) (fun hc => ?_) (fun hc => ?_)
        · replace h := if_f h hc
          exact w_X12_qGoesOn_279 C (f_X12_qGoesOn_247 k) ih x1 S3 h _ _ _ hR (lv_sub hl [0, 1] rfl)
        · replace h := if_t h hc
          refine lv_aload_n C.1 C.2.1 dX12_qGoesOn_271 rfl (lv_at hl 0 rfl) ?_
          refine lv_iconst (v := (2 : Int32)) C.1 C.2.1 dX12_qGoesOn_272 (by decide) ?_
          obtain ⟨r4, S4, h4, h⟩ := ob2_ok h
          refine hr_Vi (v := r4) (S' := S4) (As := [.int (2 : Int32)]) (rest := []) C cf12 (c_X12_qIsOn l E (2 : Int32) _ _ h4) yv_X12_qIsOn lk_RX12_640 rfl aM_0 rfl rfl hl.1 (Nat.le_of_ble_eq_true rfl) (by decide) (by decide) hR (ho_A hR) dX12_qGoesOn_273 (fun H locs hR => ?_)
          refine lv_if_eq (tgt := 286) C.1 C.2.1 dX12_qGoesOn_276 (by decide) (fun hc => ?_) (fun hc => ?_)
          · replace h := if_t h hc
            refine lv_aload_n C.1 C.2.1 dX12_qGoesOn_286 rfl (lv_at hl 0 rfl) ?_
            refine ho_getR (a' := 102) C cf12 fM_252 hR aM_0 rfl dX12_qGoesOn_287 ?_
            refine lv_aload_n C.1 C.2.1 dX12_qGoesOn_290 rfl (lv_at hl 0 rfl) ?_
            refine ho_getI C cf12 fM_355 hR aM_0 dX12_qGoesOn_291 ?_
            refine lv_iload_n C.1 C.2.1 dX12_qGoesOn_294 rfl (lv_at hl 1 rfl) ?_
            obtain ⟨S5, e5, hi5, h⟩ := stI_ok h
            refine hr_ist C hR aM_102 hi5 e5 dX12_qGoesOn_295 (fun H locs hR => ?_)
            refine lv_aload_n C.1 C.2.1 dX12_qGoesOn_296 rfl (lv_at hl 0 rfl) ?_
            refine lv_dup C.1 C.2.1 dX12_qGoesOn_297 rfl ?_
            refine ho_getI C cf12 fM_355 hR aM_0 dX12_qGoesOn_298 ?_
            refine lv_iconst (v := (1 : Int32)) C.1 C.2.1 dX12_qGoesOn_301 (by decide) ?_
            refine lv_iadd C.1 C.2.1 dX12_qGoesOn_302 ?_
            obtain ⟨S6, e6, h⟩ := le1_ok h
            refine hr_putI C cf12 fM_355 hR aM_0 e6 dX12_qGoesOn_303 (fun H locs hR => ?_)
            refine lv_iconst (v := (1 : Int32)) C.1 C.2.1 dX12_qGoesOn_306 (by decide) ?_
            exact ho_zret C hR (Or.inr rfl) h dX12_qGoesOn_307
          · replace h := if_f h hc
            exact w_X12_qGoesOn_279 C (f_X12_qGoesOn_247 k) ih x1 S4 h _ _ _ hR (lv_sub hl [0, 1] rfl)
def f_X12_qGoesOn_246 (z0 : Int32) (S : Hp) : Option (Int32 × Hp) :=
  f_X12_qGoesOn_247 5000 z0 S
set_option maxHeartbeats 4000000 in
set_option maxRecDepth 100000 in
theorem w_X12_qGoesOn_246 {p : Program} {l : Launch} {e : Env} {s : State} {m : MethodId} {args : Array Value} {below : List Frame} {meth : Method} {c : Code} {E : Ev} {S0 : Hp} {r : (Int32 × Hp)} (C : ho_I p s m args meth c RX12 cX12_qGoesOn 2 (some .boolean)) :
    ∀ (z0 : Int32) (S : Hp), f_X12_qGoesOn_246 z0 S = some r → ho_G p l e s m args below meth c yM E S0 3 2 (some (.int r.1), r.2) 246 [(0, .ref (E.2.1 0))] [.int z0] S := by
  intro z0 S h H locs ls hR hl
  unfold f_X12_qGoesOn_246 at h
  refine lv_istore_n (lv' := [(1, .int z0), (0, .ref (E.2.1 0))]) C.1 C.2.1 dX12_qGoesOn_246 rfl hl (by decide) rfl (fun ls hl => ?_)
  exact w_X12_qGoesOn_247 C 5000 z0 S h _ _ _ hR (lv_sub hl [1, 0] rfl)
def f_X12_qGoesOn_225 (S : Hp) : Option (Int32 × Hp) :=
  ldI S 1 1600 ((S.1 0 2) - (1 : Int32)) (fun v1 => if v1 = (43 : Int32) then f_X12_qGoesOn_246 (1 : Int32) S else f_X12_qGoesOn_246 (2 : Int32) S)
set_option maxHeartbeats 4000000 in
set_option maxRecDepth 100000 in
theorem w_X12_qGoesOn_225 {p : Program} {l : Launch} {e : Env} {s : State} {m : MethodId} {args : Array Value} {below : List Frame} {meth : Method} {c : Code} {E : Ev} {S0 : Hp} {r : (Int32 × Hp)} (C : ho_I p s m args meth c RX12 cX12_qGoesOn 2 (some .boolean)) :
    ∀ (S : Hp), f_X12_qGoesOn_225 S = some r → ho_G p l e s m args below meth c yM E S0 3 2 (some (.int r.1), r.2) 225 [(0, .ref (E.2.1 0))] [] S := by
  intro S h H locs ls hR hl
  unfold f_X12_qGoesOn_225 at h
  refine lv_aload_n C.1 C.2.1 dX12_qGoesOn_225 rfl (lv_at hl 0 rfl) ?_
  refine ho_getR (a' := 1) C cf12 fM_7 hR aM_0 rfl dX12_qGoesOn_226 ?_
  refine lv_aload_n C.1 C.2.1 dX12_qGoesOn_229 rfl (lv_at hl 0 rfl) ?_
  refine ho_getI C cf12 fM_270 hR aM_0 dX12_qGoesOn_230 ?_
  refine lv_iconst (v := (1 : Int32)) C.1 C.2.1 dX12_qGoesOn_233 (by decide) ?_
  refine lv_isub C.1 C.2.1 dX12_qGoesOn_234 ?_
  obtain ⟨v1, e1, hi1, h⟩ := ldI_ok h
  refine hr_ild C hR aM_1 hi1 e1 dX12_qGoesOn_235 ?_
  refine lv_bipush (v := (43 : Int32)) C.1 C.2.1 dX12_qGoesOn_236 (by decide) ?_
  refine lv_icmp_ne (tgt := 245) C.1 C.2.1 dX12_qGoesOn_238 (by decide) (fun hc => ?_) (fun hc => ?_)
  · replace h := if_f h hc
    refine lv_iconst (v := (2 : Int32)) C.1 C.2.1 dX12_qGoesOn_245 (by decide) ?_
    exact w_X12_qGoesOn_246 C (2 : Int32) S h _ _ _ hR (lv_sub hl [0] rfl)
  · replace h := if_t h hc
    refine lv_iconst (v := (1 : Int32)) C.1 C.2.1 dX12_qGoesOn_241 (by decide) ?_
    refine lv_goto (tgt := 246) C.1 C.2.1 dX12_qGoesOn_242 (by decide) ?_
    exact w_X12_qGoesOn_246 C (1 : Int32) S h _ _ _ hR (lv_sub hl [0] rfl)
def f_X12_qGoesOn_326 (S : Hp) : Option (Int32 × Hp) :=
  ob (f_X12_asksSign (44 : Int32) S) (fun S1 => if (S1.1 0 5) = 0 then ob (f_X12_qDropsToBracket S1) (fun S2 => ldI S2 102 1700 ((S2.1 0 102) - (1 : Int32)) (fun v3 => stI S2 102 1700 ((S2.1 0 102) - (1 : Int32)) (v3 + (2 : Int32)) (fun S4 => some ((1 : Int32), S4)))) else some ((0 : Int32), S1))
set_option maxHeartbeats 4000000 in
set_option maxRecDepth 100000 in
theorem w_X12_qGoesOn_326 {p : Program} {l : Launch} {e : Env} {s : State} {m : MethodId} {args : Array Value} {below : List Frame} {meth : Method} {c : Code} {E : Ev} {S0 : Hp} {r : (Int32 × Hp)} (C : ho_I p s m args meth c RX12 cX12_qGoesOn 2 (some .boolean)) :
    ∀ (S : Hp), f_X12_qGoesOn_326 S = some r → ho_G p l e s m args below meth c yM E S0 3 2 (some (.int r.1), r.2) 326 [(0, .ref (E.2.1 0))] [] S := by
  intro S h H locs ls hR hl
  unfold f_X12_qGoesOn_326 at h
  refine lv_aload_n C.1 C.2.1 dX12_qGoesOn_326 rfl (lv_at hl 0 rfl) ?_
  refine lv_bipush (v := (44 : Int32)) C.1 C.2.1 dX12_qGoesOn_327 (by decide) ?_
  obtain ⟨S1, h1, h⟩ := ob_ok h
  refine hr_Vv (S' := S1) (As := [.int (44 : Int32)]) (rest := []) C cf12 (c_X12_asksSign l E (44 : Int32) _ _ h1) yv_X12_asksSign lk_RX12_338 rfl aM_0 rfl rfl hl.1 (Nat.le_of_ble_eq_true rfl) (by decide) (by decide) hR (ho_A hR) dX12_qGoesOn_329 (fun H locs hR => ?_)
  refine lv_aload_n C.1 C.2.1 dX12_qGoesOn_332 rfl (lv_at hl 0 rfl) ?_
  refine ho_getI C cf12 fM_264 hR aM_0 dX12_qGoesOn_333 ?_
  refine lv_if_eq (tgt := 341) C.1 C.2.1 dX12_qGoesOn_336 (by decide) (fun hc => ?_) (fun hc => ?_)
  · replace h := if_t h hc
    refine lv_aload_n C.1 C.2.1 dX12_qGoesOn_341 rfl (lv_at hl 0 rfl) ?_
    obtain ⟨S2, h2, h⟩ := ob_ok h
    refine hr_Vv (S' := S2) (As := []) (rest := []) C cf12 (c_X12_qDropsToBracket l E _ _ h2) yv_X12_qDropsToBracket lk_RX12_637 rfl aM_0 rfl rfl hl.1 (Nat.le_of_ble_eq_true rfl) (by decide) (by decide) hR (ho_A hR) dX12_qGoesOn_342 (fun H locs hR => ?_)
    refine lv_aload_n C.1 C.2.1 dX12_qGoesOn_345 rfl (lv_at hl 0 rfl) ?_
    refine ho_getR (a' := 102) C cf12 fM_252 hR aM_0 rfl dX12_qGoesOn_346 ?_
    refine lv_aload_n C.1 C.2.1 dX12_qGoesOn_349 rfl (lv_at hl 0 rfl) ?_
    refine ho_getI C cf12 fM_355 hR aM_0 dX12_qGoesOn_350 ?_
    refine lv_iconst (v := (1 : Int32)) C.1 C.2.1 dX12_qGoesOn_353 (by decide) ?_
    refine lv_isub C.1 C.2.1 dX12_qGoesOn_354 ?_
    refine lv_dup2_11 C.1 C.2.1 dX12_qGoesOn_355 rfl rfl ?_
    obtain ⟨v3, e3, hi3, h⟩ := ldI_ok h
    refine hr_ild C hR aM_102 hi3 e3 dX12_qGoesOn_356 ?_
    refine lv_iconst (v := (2 : Int32)) C.1 C.2.1 dX12_qGoesOn_357 (by decide) ?_
    refine lv_iadd C.1 C.2.1 dX12_qGoesOn_358 ?_
    obtain ⟨S4, e4, hi4, h⟩ := stI_ok h
    refine hr_ist C hR aM_102 hi4 e4 dX12_qGoesOn_359 (fun H locs hR => ?_)
    refine lv_iconst (v := (1 : Int32)) C.1 C.2.1 dX12_qGoesOn_360 (by decide) ?_
    exact ho_zret C hR (Or.inr rfl) h dX12_qGoesOn_361
  · replace h := if_f h hc
    refine lv_iconst (v := (0 : Int32)) C.1 C.2.1 dX12_qGoesOn_339 (by decide) ?_
    exact ho_zret C hR (Or.inl rfl) h dX12_qGoesOn_340
def f_X12_qGoesOn_122 (S : Hp) : Option (Int32 × Hp) :=
  ob2 (f_X12_takesSign (42 : Int32) S) (fun r1 S1 => if r1 = 0 then ob2 (f_X12_takesSign (47 : Int32) S1) (fun r2 S2 => if r2 = 0 then ob2 (f_X12_takesSign (43 : Int32) S2) (fun r3 S3 => if r3 = 0 then ob2 (f_X12_takesSign (45 : Int32) S3) (fun r4 S4 => if r4 = 0 then ob2 (f_X12_qBracket S4) (fun r5 S5 => if r5 = (21 : Int32) then f_X12_qGoesOn_326 S5 else ob2 (f_X12_qBracket S5) (fun r6 S6 => if r6 = (22 : Int32) then f_X12_qGoesOn_326 S6 else ob2 (f_X12_qBracket S6) (fun r7 S7 => if r7 = (-1 : Int32) then some ((0 : Int32), S7) else if (S7.1 0 5) = 0 then ob (f_X12_fail (1 : Int32) (S7.1 0 2) S7) (fun S8 => some ((0 : Int32), S8)) else some ((0 : Int32), S7)))) else f_X12_qGoesOn_225 S4) else f_X12_qGoesOn_225 S3) else f_X12_qGoesOn_140 S2) else f_X12_qGoesOn_140 S1)
set_option maxHeartbeats 4000000 in
set_option maxRecDepth 100000 in
theorem w_X12_qGoesOn_122 {p : Program} {l : Launch} {e : Env} {s : State} {m : MethodId} {args : Array Value} {below : List Frame} {meth : Method} {c : Code} {E : Ev} {S0 : Hp} {r : (Int32 × Hp)} (C : ho_I p s m args meth c RX12 cX12_qGoesOn 2 (some .boolean)) :
    ∀ (S : Hp), f_X12_qGoesOn_122 S = some r → ho_G p l e s m args below meth c yM E S0 3 2 (some (.int r.1), r.2) 122 [(0, .ref (E.2.1 0))] [] S := by
  intro S h H locs ls hR hl
  unfold f_X12_qGoesOn_122 at h
  refine lv_aload_n C.1 C.2.1 dX12_qGoesOn_122 rfl (lv_at hl 0 rfl) ?_
  refine lv_bipush (v := (42 : Int32)) C.1 C.2.1 dX12_qGoesOn_123 (by decide) ?_
  obtain ⟨r1, S1, h1, h⟩ := ob2_ok h
  refine hr_Vi (v := r1) (S' := S1) (As := [.int (42 : Int32)]) (rest := []) C cf12 (c_X12_takesSign l E (42 : Int32) _ _ h1) yv_X12_takesSign lk_RX12_298 rfl aM_0 rfl rfl hl.1 (Nat.le_of_ble_eq_true rfl) (by decide) (by decide) hR (ho_A hR) dX12_qGoesOn_125 (fun H locs hR => ?_)
  refine lv_if_ne (tgt := 140) C.1 C.2.1 dX12_qGoesOn_128 (by decide) (fun hc => ?_) (fun hc => ?_)
  · replace h := if_f h hc
    exact w_X12_qGoesOn_140 C S1 h _ _ _ hR (lv_sub hl [0] rfl)
  · replace h := if_t h hc
    refine lv_aload_n C.1 C.2.1 dX12_qGoesOn_131 rfl (lv_at hl 0 rfl) ?_
    refine lv_bipush (v := (47 : Int32)) C.1 C.2.1 dX12_qGoesOn_132 (by decide) ?_
    obtain ⟨r2, S2, h2, h⟩ := ob2_ok h
    refine hr_Vi (v := r2) (S' := S2) (As := [.int (47 : Int32)]) (rest := []) C cf12 (c_X12_takesSign l E (47 : Int32) _ _ h2) yv_X12_takesSign lk_RX12_298 rfl aM_0 rfl rfl hl.1 (Nat.le_of_ble_eq_true rfl) (by decide) (by decide) hR (ho_A hR) dX12_qGoesOn_134 (fun H locs hR => ?_)
    refine lv_if_eq (tgt := 207) C.1 C.2.1 dX12_qGoesOn_137 (by decide) (fun hc => ?_) (fun hc => ?_)
    · replace h := if_t h hc
      refine lv_aload_n C.1 C.2.1 dX12_qGoesOn_207 rfl (lv_at hl 0 rfl) ?_
      refine lv_bipush (v := (43 : Int32)) C.1 C.2.1 dX12_qGoesOn_208 (by decide) ?_
      obtain ⟨r3, S3, h3, h⟩ := ob2_ok h
      refine hr_Vi (v := r3) (S' := S3) (As := [.int (43 : Int32)]) (rest := []) C cf12 (c_X12_takesSign l E (43 : Int32) _ _ h3) yv_X12_takesSign lk_RX12_298 rfl aM_0 rfl rfl hl.1 (Nat.le_of_ble_eq_true rfl) (by decide) (by decide) hR (ho_A hR) dX12_qGoesOn_210 (fun H locs hR => ?_)
      refine lv_if_ne (tgt := 225) C.1 C.2.1 dX12_qGoesOn_213 (by decide) (fun hc => ?_) (fun hc => ?_)
      · replace h := if_f h hc
        exact w_X12_qGoesOn_225 C S3 h _ _ _ hR (lv_sub hl [0] rfl)
      · replace h := if_t h hc
        refine lv_aload_n C.1 C.2.1 dX12_qGoesOn_216 rfl (lv_at hl 0 rfl) ?_
        refine lv_bipush (v := (45 : Int32)) C.1 C.2.1 dX12_qGoesOn_217 (by decide) ?_
        obtain ⟨r4, S4, h4, h⟩ := ob2_ok h
        refine hr_Vi (v := r4) (S' := S4) (As := [.int (45 : Int32)]) (rest := []) C cf12 (c_X12_takesSign l E (45 : Int32) _ _ h4) yv_X12_takesSign lk_RX12_298 rfl aM_0 rfl rfl hl.1 (Nat.le_of_ble_eq_true rfl) (by decide) (by decide) hR (ho_A hR) dX12_qGoesOn_219 (fun H locs hR => ?_)
        refine lv_if_eq (tgt := 308) C.1 C.2.1 dX12_qGoesOn_222 (by decide) (fun hc => ?_) (fun hc => ?_)
        · replace h := if_t h hc
          refine lv_aload_n C.1 C.2.1 dX12_qGoesOn_308 rfl (lv_at hl 0 rfl) ?_
          obtain ⟨r5, S5, h5, h⟩ := ob2_ok h
          refine hr_Vi (v := r5) (S' := S5) (As := []) (rest := []) C cf12 (c_X12_qBracket l E _ _ h5) yv_X12_qBracket lk_RX12_634 rfl aM_0 rfl rfl hl.1 (Nat.le_of_ble_eq_true rfl) (by decide) (by decide) hR (ho_A hR) dX12_qGoesOn_309 (fun H locs hR => ?_)
          refine lv_bipush (v := (21 : Int32)) C.1 C.2.1 dX12_qGoesOn_312 (by decide) ?_
          refine lv_icmp_eq (tgt := 326) C.1 C.2.1 dX12_qGoesOn_314 (by decide) (fun hc => ?_) (fun hc => ?_)
          · replace h := if_t h hc
            exact w_X12_qGoesOn_326 C S5 h _ _ _ hR (lv_sub hl [0] rfl)
          · replace h := if_f h hc
            refine lv_aload_n C.1 C.2.1 dX12_qGoesOn_317 rfl (lv_at hl 0 rfl) ?_
            obtain ⟨r6, S6, h6, h⟩ := ob2_ok h
            refine hr_Vi (v := r6) (S' := S6) (As := []) (rest := []) C cf12 (c_X12_qBracket l E _ _ h6) yv_X12_qBracket lk_RX12_634 rfl aM_0 rfl rfl hl.1 (Nat.le_of_ble_eq_true rfl) (by decide) (by decide) hR (ho_A hR) dX12_qGoesOn_318 (fun H locs hR => ?_)
            refine lv_bipush (v := (22 : Int32)) C.1 C.2.1 dX12_qGoesOn_321 (by decide) ?_
            refine lv_icmp_ne (tgt := 362) C.1 C.2.1 dX12_qGoesOn_323 (by decide) (fun hc => ?_) (fun hc => ?_)
            · replace h := if_f h hc
              refine lv_aload_n C.1 C.2.1 dX12_qGoesOn_362 rfl (lv_at hl 0 rfl) ?_
              obtain ⟨r7, S7, h7, h⟩ := ob2_ok h
              refine hr_Vi (v := r7) (S' := S7) (As := []) (rest := []) C cf12 (c_X12_qBracket l E _ _ h7) yv_X12_qBracket lk_RX12_634 rfl aM_0 rfl rfl hl.1 (Nat.le_of_ble_eq_true rfl) (by decide) (by decide) hR (ho_A hR) dX12_qGoesOn_363 (fun H locs hR => ?_)
              refine lv_iconst (v := (-1 : Int32)) C.1 C.2.1 dX12_qGoesOn_366 (by decide) ?_
              refine lv_icmp_eq (tgt := 386) C.1 C.2.1 dX12_qGoesOn_367 (by decide) (fun hc => ?_) (fun hc => ?_)
              · replace h := if_t h hc
                refine lv_iconst (v := (0 : Int32)) C.1 C.2.1 dX12_qGoesOn_386 (by decide) ?_
                exact ho_zret C hR (Or.inl rfl) h dX12_qGoesOn_387
              · replace h := if_f h hc
                refine lv_aload_n C.1 C.2.1 dX12_qGoesOn_370 rfl (lv_at hl 0 rfl) ?_
                refine ho_getI C cf12 fM_264 hR aM_0 dX12_qGoesOn_371 ?_
                refine lv_if_ne (tgt := 386) C.1 C.2.1 dX12_qGoesOn_374 (by decide) (fun hc => ?_) (fun hc => ?_)
                · replace h := if_f h hc
                  refine lv_iconst (v := (0 : Int32)) C.1 C.2.1 dX12_qGoesOn_386 (by decide) ?_
                  exact ho_zret C hR (Or.inl rfl) h dX12_qGoesOn_387
                · replace h := if_t h hc
                  refine lv_aload_n C.1 C.2.1 dX12_qGoesOn_377 rfl (lv_at hl 0 rfl) ?_
                  refine lv_iconst (v := (1 : Int32)) C.1 C.2.1 dX12_qGoesOn_378 (by decide) ?_
                  refine lv_aload_n C.1 C.2.1 dX12_qGoesOn_379 rfl (lv_at hl 0 rfl) ?_
                  refine ho_getI C cf12 fM_270 hR aM_0 dX12_qGoesOn_380 ?_
                  obtain ⟨S8, h8, h⟩ := ob_ok h
                  refine hr_Vv (S' := S8) (As := [.int (1 : Int32), .int (S7.1 0 2)]) (rest := []) C cf12 (c_X12_fail l E (1 : Int32) (S7.1 0 2) _ _ h8) yv_X12_fail lk_RX12_294 rfl aM_0 rfl rfl hl.1 (Nat.le_of_ble_eq_true rfl) (by decide) (by decide) hR (ho_A hR) dX12_qGoesOn_383 (fun H locs hR => ?_)
                  refine lv_iconst (v := (0 : Int32)) C.1 C.2.1 dX12_qGoesOn_386 (by decide) ?_
                  exact ho_zret C hR (Or.inl rfl) h dX12_qGoesOn_387
            · replace h := if_t h hc
              exact w_X12_qGoesOn_326 C S6 h _ _ _ hR (lv_sub hl [0] rfl)
        · replace h := if_f h hc
          exact w_X12_qGoesOn_225 C S4 h _ _ _ hR (lv_sub hl [0] rfl)
    · replace h := if_f h hc
      exact w_X12_qGoesOn_140 C S2 h _ _ _ hR (lv_sub hl [0] rfl)
def f_X12_qGoesOn_115 (K0 : Hp → Option (Int32 × Hp)) (S : Hp) : Option (Int32 × Hp) :=
  ob (f_X12_qEndsPart S) (fun S1 => K0 S1)
set_option maxHeartbeats 4000000 in
set_option maxRecDepth 100000 in
theorem w_X12_qGoesOn_115 {p : Program} {l : Launch} {e : Env} {s : State} {m : MethodId} {args : Array Value} {below : List Frame} {meth : Method} {c : Code} {E : Ev} {S0 : Hp} {r : (Int32 × Hp)} (C : ho_I p s m args meth c RX12 cX12_qGoesOn 2 (some .boolean)) (K0 : Hp → Option (Int32 × Hp)) (hK0 : ∀ (S : Hp), K0 S = some r → ho_G p l e s m args below meth c yM E S0 3 2 (some (.int r.1), r.2) 0 [(0, .ref (E.2.1 0))] [] S) :
    ∀ (S : Hp), f_X12_qGoesOn_115 K0 S = some r → ho_G p l e s m args below meth c yM E S0 3 2 (some (.int r.1), r.2) 115 [(0, .ref (E.2.1 0))] [] S := by
  intro S h H locs ls hR hl
  unfold f_X12_qGoesOn_115 at h
  refine lv_aload_n C.1 C.2.1 dX12_qGoesOn_115 rfl (lv_at hl 0 rfl) ?_
  obtain ⟨S1, h1, h⟩ := ob_ok h
  refine hr_Vv (S' := S1) (As := []) (rest := []) C cf12 (c_X12_qEndsPart l E _ _ h1) yv_X12_qEndsPart lk_RX12_631 rfl aM_0 rfl rfl hl.1 (Nat.le_of_ble_eq_true rfl) (by decide) (by decide) hR (ho_A hR) dX12_qGoesOn_116 (fun H locs hR => ?_)
  refine lv_goto (tgt := 0) C.1 C.2.1 dX12_qGoesOn_119 (by decide) ?_
  exact hK0 S1 h _ _ _ hR (lv_sub hl [0] rfl)
def f_X12_qGoesOn_112 (K0 : Hp → Option (Int32 × Hp)) (z1 : Int32) (S : Hp) : Option (Int32 × Hp) :=
  ob (f_X12_qCode z1 S) (fun S1 => f_X12_qGoesOn_115 K0 S1)
set_option maxHeartbeats 4000000 in
set_option maxRecDepth 100000 in
theorem w_X12_qGoesOn_112 {p : Program} {l : Launch} {e : Env} {s : State} {m : MethodId} {args : Array Value} {below : List Frame} {meth : Method} {c : Code} {E : Ev} {S0 : Hp} {r : (Int32 × Hp)} (C : ho_I p s m args meth c RX12 cX12_qGoesOn 2 (some .boolean)) (K0 : Hp → Option (Int32 × Hp)) (hK0 : ∀ (S : Hp), K0 S = some r → ho_G p l e s m args below meth c yM E S0 3 2 (some (.int r.1), r.2) 0 [(0, .ref (E.2.1 0))] [] S) :
    ∀ (z1 : Int32) (S : Hp), f_X12_qGoesOn_112 K0 z1 S = some r → ho_G p l e s m args below meth c yM E S0 3 2 (some (.int r.1), r.2) 112 [(0, .ref (E.2.1 0))] [.int z1, .ref (E.2.1 0)] S := by
  intro z1 S h H locs ls hR hl
  unfold f_X12_qGoesOn_112 at h
  obtain ⟨S1, h1, h⟩ := ob_ok h
  refine hr_Vv (S' := S1) (As := [.int z1]) (rest := []) C cf12 (c_X12_qCode l E z1 _ _ h1) yv_X12_qCode lk_RX12_607 rfl aM_0 rfl rfl hl.1 (Nat.le_of_ble_eq_true rfl) (by decide) (by decide) hR (ho_A hR) dX12_qGoesOn_112 (fun H locs hR => ?_)
  exact w_X12_qGoesOn_115 C K0 hK0 S1 h _ _ _ hR (lv_sub hl [0] rfl)
def f_X12_qGoesOn_43 (K0 : Hp → Option (Int32 × Hp)) (S : Hp) : Option (Int32 × Hp) :=
  le1 (ho_sI S 0 2 ((S.1 0 2) + (1 : Int32))) (fun S1 => ob (f_X12_qDropsToBracket S1) (fun S2 => le1 (ho_sI S2 0 102 ((S2.1 0 102) - (1 : Int32))) (fun S3 => le1 (ho_sI S3 0 103 ((S3.1 0 103) - (1 : Int32))) (fun S4 => ldI S4 102 1700 (S4.1 0 102) (fun v5 => if v5 = (20 : Int32) then f_X12_qGoesOn_115 K0 S4 else ldI S4 102 1700 (S4.1 0 102) (fun v6 => if v6 = (23 : Int32) then f_X12_qGoesOn_112 K0 (5 : Int32) S4 else f_X12_qGoesOn_112 K0 (6 : Int32) S4))))))
set_option maxHeartbeats 4000000 in
set_option maxRecDepth 100000 in
theorem w_X12_qGoesOn_43 {p : Program} {l : Launch} {e : Env} {s : State} {m : MethodId} {args : Array Value} {below : List Frame} {meth : Method} {c : Code} {E : Ev} {S0 : Hp} {r : (Int32 × Hp)} (C : ho_I p s m args meth c RX12 cX12_qGoesOn 2 (some .boolean)) (K0 : Hp → Option (Int32 × Hp)) (hK0 : ∀ (S : Hp), K0 S = some r → ho_G p l e s m args below meth c yM E S0 3 2 (some (.int r.1), r.2) 0 [(0, .ref (E.2.1 0))] [] S) :
    ∀ (S : Hp), f_X12_qGoesOn_43 K0 S = some r → ho_G p l e s m args below meth c yM E S0 3 2 (some (.int r.1), r.2) 43 [(0, .ref (E.2.1 0))] [] S := by
  intro S h H locs ls hR hl
  unfold f_X12_qGoesOn_43 at h
  refine lv_aload_n C.1 C.2.1 dX12_qGoesOn_43 rfl (lv_at hl 0 rfl) ?_
  refine lv_dup C.1 C.2.1 dX12_qGoesOn_44 rfl ?_
  refine ho_getI C cf12 fM_270 hR aM_0 dX12_qGoesOn_45 ?_
  refine lv_iconst (v := (1 : Int32)) C.1 C.2.1 dX12_qGoesOn_48 (by decide) ?_
  refine lv_iadd C.1 C.2.1 dX12_qGoesOn_49 ?_
  obtain ⟨S1, e1, h⟩ := le1_ok h
  refine hr_putI C cf12 fM_270 hR aM_0 e1 dX12_qGoesOn_50 (fun H locs hR => ?_)
  refine lv_aload_n C.1 C.2.1 dX12_qGoesOn_53 rfl (lv_at hl 0 rfl) ?_
  obtain ⟨S2, h2, h⟩ := ob_ok h
  refine hr_Vv (S' := S2) (As := []) (rest := []) C cf12 (c_X12_qDropsToBracket l E _ _ h2) yv_X12_qDropsToBracket lk_RX12_637 rfl aM_0 rfl rfl hl.1 (Nat.le_of_ble_eq_true rfl) (by decide) (by decide) hR (ho_A hR) dX12_qGoesOn_54 (fun H locs hR => ?_)
  refine lv_aload_n C.1 C.2.1 dX12_qGoesOn_57 rfl (lv_at hl 0 rfl) ?_
  refine lv_dup C.1 C.2.1 dX12_qGoesOn_58 rfl ?_
  refine ho_getI C cf12 fM_355 hR aM_0 dX12_qGoesOn_59 ?_
  refine lv_iconst (v := (1 : Int32)) C.1 C.2.1 dX12_qGoesOn_62 (by decide) ?_
  refine lv_isub C.1 C.2.1 dX12_qGoesOn_63 ?_
  obtain ⟨S3, e3, h⟩ := le1_ok h
  refine hr_putI C cf12 fM_355 hR aM_0 e3 dX12_qGoesOn_64 (fun H locs hR => ?_)
  refine lv_aload_n C.1 C.2.1 dX12_qGoesOn_67 rfl (lv_at hl 0 rfl) ?_
  refine lv_dup C.1 C.2.1 dX12_qGoesOn_68 rfl ?_
  refine ho_getI C cf12 fM_358 hR aM_0 dX12_qGoesOn_69 ?_
  refine lv_iconst (v := (1 : Int32)) C.1 C.2.1 dX12_qGoesOn_72 (by decide) ?_
  refine lv_isub C.1 C.2.1 dX12_qGoesOn_73 ?_
  obtain ⟨S4, e4, h⟩ := le1_ok h
  refine hr_putI C cf12 fM_358 hR aM_0 e4 dX12_qGoesOn_74 (fun H locs hR => ?_)
  refine lv_aload_n C.1 C.2.1 dX12_qGoesOn_77 rfl (lv_at hl 0 rfl) ?_
  refine ho_getR (a' := 102) C cf12 fM_252 hR aM_0 rfl dX12_qGoesOn_78 ?_
  refine lv_aload_n C.1 C.2.1 dX12_qGoesOn_81 rfl (lv_at hl 0 rfl) ?_
  refine ho_getI C cf12 fM_355 hR aM_0 dX12_qGoesOn_82 ?_
  obtain ⟨v5, e5, hi5, h⟩ := ldI_ok h
  refine hr_ild C hR aM_102 hi5 e5 dX12_qGoesOn_85 ?_
  refine lv_bipush (v := (20 : Int32)) C.1 C.2.1 dX12_qGoesOn_86 (by decide) ?_
  refine lv_icmp_eq (tgt := 115) C.1 C.2.1 dX12_qGoesOn_88 (by decide) (fun hc => ?_) (fun hc => ?_)
  · replace h := if_t h hc
    exact w_X12_qGoesOn_115 C K0 hK0 S4 h _ _ _ hR (lv_sub hl [0] rfl)
  · replace h := if_f h hc
    refine lv_aload_n C.1 C.2.1 dX12_qGoesOn_91 rfl (lv_at hl 0 rfl) ?_
    refine lv_aload_n C.1 C.2.1 dX12_qGoesOn_92 rfl (lv_at hl 0 rfl) ?_
    refine ho_getR (a' := 102) C cf12 fM_252 hR aM_0 rfl dX12_qGoesOn_93 ?_
    refine lv_aload_n C.1 C.2.1 dX12_qGoesOn_96 rfl (lv_at hl 0 rfl) ?_
    refine ho_getI C cf12 fM_355 hR aM_0 dX12_qGoesOn_97 ?_
    obtain ⟨v6, e6, hi6, h⟩ := ldI_ok h
    refine hr_ild C hR aM_102 hi6 e6 dX12_qGoesOn_100 ?_
    refine lv_bipush (v := (23 : Int32)) C.1 C.2.1 dX12_qGoesOn_101 (by decide) ?_
    refine lv_icmp_ne (tgt := 110) C.1 C.2.1 dX12_qGoesOn_103 (by decide) (fun hc => ?_) (fun hc => ?_)
    · replace h := if_f h hc
      refine lv_bipush (v := (6 : Int32)) C.1 C.2.1 dX12_qGoesOn_110 (by decide) ?_
      exact w_X12_qGoesOn_112 C K0 hK0 (6 : Int32) S4 h _ _ _ hR (lv_sub hl [0] rfl)
    · replace h := if_t h hc
      refine lv_iconst (v := (5 : Int32)) C.1 C.2.1 dX12_qGoesOn_106 (by decide) ?_
      refine lv_goto (tgt := 112) C.1 C.2.1 dX12_qGoesOn_107 (by decide) ?_
      exact w_X12_qGoesOn_112 C K0 hK0 (5 : Int32) S4 h _ _ _ hR (lv_sub hl [0] rfl)
def f_X12_qGoesOn_0 : Nat → Hp → Option (Int32 × Hp)
  | 0, _ => none
  | k + 1, S => if (S.1 0 5) = 0 then ob2 (f_X12_look0 S) (fun r1 S1 => if r1 = (41 : Int32) then ob2 (f_X12_qBracket S1) (fun r2 S2 => if r2 = (20 : Int32) then f_X12_qGoesOn_43 (f_X12_qGoesOn_0 k) S2 else ob2 (f_X12_qBracket S2) (fun r3 S3 => if r3 = (23 : Int32) then f_X12_qGoesOn_43 (f_X12_qGoesOn_0 k) S3 else ob2 (f_X12_qBracket S3) (fun r4 S4 => if r4 = (24 : Int32) then f_X12_qGoesOn_43 (f_X12_qGoesOn_0 k) S4 else f_X12_qGoesOn_122 S4))) else f_X12_qGoesOn_122 S1) else f_X12_qGoesOn_122 S
set_option maxHeartbeats 4000000 in
set_option maxRecDepth 100000 in
theorem w_X12_qGoesOn_0 {p : Program} {l : Launch} {e : Env} {s : State} {m : MethodId} {args : Array Value} {below : List Frame} {meth : Method} {c : Code} {E : Ev} {S0 : Hp} {r : (Int32 × Hp)} (C : ho_I p s m args meth c RX12 cX12_qGoesOn 2 (some .boolean)) :
    ∀ (k : Nat) (S : Hp), f_X12_qGoesOn_0 k S = some r → ho_G p l e s m args below meth c yM E S0 3 2 (some (.int r.1), r.2) 0 [(0, .ref (E.2.1 0))] [] S := by
  intro k
  induction k with
  | zero =>
    intro S h
    exact absurd (show (none : Option (Int32 × Hp)) = some r from h) (by simp)
  | succ k ih =>
    intro S h H locs ls hR hl
    rw [f_X12_qGoesOn_0] at h
    refine lv_aload_n C.1 C.2.1 dX12_qGoesOn_0 rfl (lv_at hl 0 rfl) ?_
    refine ho_getI C cf12 fM_264 hR aM_0 dX12_qGoesOn_1 ?_
    refine lv_if_ne (tgt := 122) C.1 C.2.1 dX12_qGoesOn_4 (by decide) (fun hc => ?_) (fun hc => ?_)
    · replace h := if_f h hc
      exact w_X12_qGoesOn_122 C S h _ _ _ hR (lv_sub hl [0] rfl)
    · replace h := if_t h hc
      refine lv_aload_n C.1 C.2.1 dX12_qGoesOn_7 rfl (lv_at hl 0 rfl) ?_
      obtain ⟨r1, S1, h1, h⟩ := ob2_ok h
      refine hr_Vi (v := r1) (S' := S1) (As := []) (rest := []) C cf12 (c_X12_look0 l E _ _ h1) yv_X12_look0 lk_RX12_276 rfl aM_0 rfl rfl hl.1 (Nat.le_of_ble_eq_true rfl) (by decide) (by decide) hR (ho_A hR) dX12_qGoesOn_8 (fun H locs hR => ?_)
      refine lv_bipush (v := (41 : Int32)) C.1 C.2.1 dX12_qGoesOn_11 (by decide) ?_
      refine lv_icmp_ne (tgt := 122) C.1 C.2.1 dX12_qGoesOn_13 (by decide) (fun hc => ?_) (fun hc => ?_)
      · replace h := if_f h hc
        exact w_X12_qGoesOn_122 C S1 h _ _ _ hR (lv_sub hl [0] rfl)
      · replace h := if_t h hc
        refine lv_aload_n C.1 C.2.1 dX12_qGoesOn_16 rfl (lv_at hl 0 rfl) ?_
        obtain ⟨r2, S2, h2, h⟩ := ob2_ok h
        refine hr_Vi (v := r2) (S' := S2) (As := []) (rest := []) C cf12 (c_X12_qBracket l E _ _ h2) yv_X12_qBracket lk_RX12_634 rfl aM_0 rfl rfl hl.1 (Nat.le_of_ble_eq_true rfl) (by decide) (by decide) hR (ho_A hR) dX12_qGoesOn_17 (fun H locs hR => ?_)
        refine lv_bipush (v := (20 : Int32)) C.1 C.2.1 dX12_qGoesOn_20 (by decide) ?_
        refine lv_icmp_eq (tgt := 43) C.1 C.2.1 dX12_qGoesOn_22 (by decide) (fun hc => ?_) (fun hc => ?_)
        · replace h := if_t h hc
          exact w_X12_qGoesOn_43 C (f_X12_qGoesOn_0 k) ih S2 h _ _ _ hR (lv_sub hl [0] rfl)
        · replace h := if_f h hc
          refine lv_aload_n C.1 C.2.1 dX12_qGoesOn_25 rfl (lv_at hl 0 rfl) ?_
          obtain ⟨r3, S3, h3, h⟩ := ob2_ok h
          refine hr_Vi (v := r3) (S' := S3) (As := []) (rest := []) C cf12 (c_X12_qBracket l E _ _ h3) yv_X12_qBracket lk_RX12_634 rfl aM_0 rfl rfl hl.1 (Nat.le_of_ble_eq_true rfl) (by decide) (by decide) hR (ho_A hR) dX12_qGoesOn_26 (fun H locs hR => ?_)
          refine lv_bipush (v := (23 : Int32)) C.1 C.2.1 dX12_qGoesOn_29 (by decide) ?_
          refine lv_icmp_eq (tgt := 43) C.1 C.2.1 dX12_qGoesOn_31 (by decide) (fun hc => ?_) (fun hc => ?_)
          · replace h := if_t h hc
            exact w_X12_qGoesOn_43 C (f_X12_qGoesOn_0 k) ih S3 h _ _ _ hR (lv_sub hl [0] rfl)
          · replace h := if_f h hc
            refine lv_aload_n C.1 C.2.1 dX12_qGoesOn_34 rfl (lv_at hl 0 rfl) ?_
            obtain ⟨r4, S4, h4, h⟩ := ob2_ok h
            refine hr_Vi (v := r4) (S' := S4) (As := []) (rest := []) C cf12 (c_X12_qBracket l E _ _ h4) yv_X12_qBracket lk_RX12_634 rfl aM_0 rfl rfl hl.1 (Nat.le_of_ble_eq_true rfl) (by decide) (by decide) hR (ho_A hR) dX12_qGoesOn_35 (fun H locs hR => ?_)
            refine lv_bipush (v := (24 : Int32)) C.1 C.2.1 dX12_qGoesOn_38 (by decide) ?_
            refine lv_icmp_ne (tgt := 122) C.1 C.2.1 dX12_qGoesOn_40 (by decide) (fun hc => ?_) (fun hc => ?_)
            · replace h := if_f h hc
              exact w_X12_qGoesOn_122 C S4 h _ _ _ hR (lv_sub hl [0] rfl)
            · replace h := if_t h hc
              exact w_X12_qGoesOn_43 C (f_X12_qGoesOn_0 k) ih S4 h _ _ _ hR (lv_sub hl [0] rfl)
def f_X12_qGoesOn (S : Hp) : Option (Int32 × Hp) :=
  f_X12_qGoesOn_0 5000 S
set_option maxHeartbeats 4000000 in
set_option maxRecDepth 100000 in
theorem c_X12_qGoesOn (l : Launch) (E : Ev) (S : Hp) (r : (Int32 × Hp)) (h : f_X12_qGoesOn S = some r) : ho_M l yM E yX12_qGoesOn cX12_qGoesOn 2 (some .boolean) 3 [.ref (E.2.1 0)] S (some (.int r.1), r.2) := by
  refine ho_in (by decide) (Nat.le_of_ble_eq_true rfl) ?_
  intro p e s m args below meth c C hR ls hl
  have C : ho_I p s m args meth c RX12 cX12_qGoesOn 2 (some .boolean) := C
  have hl : lv_has ls 2 [(0, .ref (E.2.1 0))] := hl
  unfold f_X12_qGoesOn at h
  exact w_X12_qGoesOn_0 C 5000 S h _ _ _ hR (lv_sub hl [0] rfl)
theorem dX12_qSums_0 : decode cX12_qSums 0 = .ok (.aload_n 0, 1) := by decide +kernel
theorem dX12_qSums_1 : decode cX12_qSums 1 = .ok (.getfield 361, 3) := by decide +kernel
theorem dX12_qSums_4 : decode cX12_qSums 4 = .ok (.istore_n 1, 1) := by decide +kernel
theorem dX12_qSums_5 : decode cX12_qSums 5 = .ok (.aload_n 0, 1) := by decide +kernel
theorem dX12_qSums_6 : decode cX12_qSums 6 = .ok (.aload_n 0, 1) := by decide +kernel
theorem dX12_qSums_7 : decode cX12_qSums 7 = .ok (.getfield 355, 3) := by decide +kernel
theorem dX12_qSums_10 : decode cX12_qSums 10 = .ok (.putfield 361, 3) := by decide +kernel
theorem dX12_qSums_13 : decode cX12_qSums 13 = .ok (.iconst 1, 1) := by decide +kernel
theorem dX12_qSums_14 : decode cX12_qSums 14 = .ok (.istore_n 2, 1) := by decide +kernel
theorem dX12_qSums_15 : decode cX12_qSums 15 = .ok (.iload_n 2, 1) := by decide +kernel
theorem dX12_qSums_16 : decode cX12_qSums 16 = .ok (.ifCond .eq 37, 3) := by decide +kernel
theorem dX12_qSums_19 : decode cX12_qSums 19 = .ok (.aload_n 0, 1) := by decide +kernel
theorem dX12_qSums_20 : decode cX12_qSums 20 = .ok (.getfield 264, 3) := by decide +kernel
theorem dX12_qSums_23 : decode cX12_qSums 23 = .ok (.ifCond .ne 30, 3) := by decide +kernel
theorem dX12_qSums_26 : decode cX12_qSums 26 = .ok (.aload_n 0, 1) := by decide +kernel
theorem dX12_qSums_27 : decode cX12_qSums 27 = .ok (.invokevirtual 643, 3) := by decide +kernel
theorem dX12_qSums_30 : decode cX12_qSums 30 = .ok (.aload_n 0, 1) := by decide +kernel
theorem dX12_qSums_31 : decode cX12_qSums 31 = .ok (.getfield 264, 3) := by decide +kernel
theorem dX12_qSums_34 : decode cX12_qSums 34 = .ok (.ifCond .ne 14, 3) := by decide +kernel
theorem dX12_qSums_37 : decode cX12_qSums 37 = .ok (.aload_n 0, 1) := by decide +kernel
theorem dX12_qSums_38 : decode cX12_qSums 38 = .ok (.invokevirtual 646, 3) := by decide +kernel
theorem dX12_qSums_41 : decode cX12_qSums 41 = .ok (.ifCond .eq 7, 3) := by decide +kernel
theorem dX12_qSums_44 : decode cX12_qSums 44 = .ok (.iconst 1, 1) := by decide +kernel
theorem dX12_qSums_45 : decode cX12_qSums 45 = .ok (.goto 4, 3) := by decide +kernel
theorem dX12_qSums_48 : decode cX12_qSums 48 = .ok (.iconst 0, 1) := by decide +kernel
theorem dX12_qSums_49 : decode cX12_qSums 49 = .ok (.istore_n 2, 1) := by decide +kernel
theorem dX12_qSums_50 : decode cX12_qSums 50 = .ok (.goto (-35), 3) := by decide +kernel
theorem dX12_qSums_53 : decode cX12_qSums 53 = .ok (.aload_n 0, 1) := by decide +kernel
theorem dX12_qSums_54 : decode cX12_qSums 54 = .ok (.getfield 264, 3) := by decide +kernel
theorem dX12_qSums_57 : decode cX12_qSums 57 = .ok (.ifCond .ne 21, 3) := by decide +kernel
theorem dX12_qSums_60 : decode cX12_qSums 60 = .ok (.aload_n 0, 1) := by decide +kernel
theorem dX12_qSums_61 : decode cX12_qSums 61 = .ok (.getfield 355, 3) := by decide +kernel
theorem dX12_qSums_64 : decode cX12_qSums 64 = .ok (.aload_n 0, 1) := by decide +kernel
theorem dX12_qSums_65 : decode cX12_qSums 65 = .ok (.getfield 361, 3) := by decide +kernel
theorem dX12_qSums_68 : decode cX12_qSums 68 = .ok (.if_icmp .le 10, 3) := by decide +kernel
theorem dX12_qSums_71 : decode cX12_qSums 71 = .ok (.aload_n 0, 1) := by decide +kernel
theorem dX12_qSums_72 : decode cX12_qSums 72 = .ok (.invokevirtual 613, 3) := by decide +kernel
theorem dX12_qSums_75 : decode cX12_qSums 75 = .ok (.goto (-22), 3) := by decide +kernel
theorem dX12_qSums_78 : decode cX12_qSums 78 = .ok (.aload_n 0, 1) := by decide +kernel
theorem dX12_qSums_79 : decode cX12_qSums 79 = .ok (.iload_n 1, 1) := by decide +kernel
theorem dX12_qSums_80 : decode cX12_qSums 80 = .ok (.putfield 361, 3) := by decide +kernel
theorem dX12_qSums_83 : decode cX12_qSums 83 = .ok (.return_, 1) := by decide +kernel
def f_X12_qSums_78 (x1 : Int32) (S : Hp) : Option Hp :=
  le1 (ho_sI S 0 104 x1) (fun S1 => some S1)
set_option maxHeartbeats 4000000 in
set_option maxRecDepth 100000 in
theorem w_X12_qSums_78 {p : Program} {l : Launch} {e : Env} {s : State} {m : MethodId} {args : Array Value} {below : List Frame} {meth : Method} {c : Code} {E : Ev} {S0 : Hp} {r : Hp} (C : ho_I p s m args meth c RX12 cX12_qSums 3 none) :
    ∀ (x1 : Int32) (S : Hp), f_X12_qSums_78 x1 S = some r → ho_G p l e s m args below meth c yM E S0 6 3 (none, r) 78 [(0, .ref (E.2.1 0)), (1, .int x1)] [] S := by
  intro x1 S h H locs ls hR hl
  unfold f_X12_qSums_78 at h
  refine lv_aload_n C.1 C.2.1 dX12_qSums_78 rfl (lv_at hl 0 rfl) ?_
  refine lv_iload_n C.1 C.2.1 dX12_qSums_79 rfl (lv_at hl 1 rfl) ?_
  obtain ⟨S1, e1, h⟩ := le1_ok h
  refine hr_putI C cf12 fM_361 hR aM_0 e1 dX12_qSums_80 (fun H locs hR => ?_)
  exact ho_vret C hR h dX12_qSums_83
def f_X12_qSums_53 : Nat → Int32 → Hp → Option Hp
  | 0, _, _ => none
  | k + 1, x1, S => if (S.1 0 5) = 0 then if (S.1 0 102) ≤ (S.1 0 104) then f_X12_qSums_78 x1 S else ob (f_X12_qDrops S) (fun S1 => f_X12_qSums_53 k x1 S1) else f_X12_qSums_78 x1 S
set_option maxHeartbeats 4000000 in
set_option maxRecDepth 100000 in
theorem w_X12_qSums_53 {p : Program} {l : Launch} {e : Env} {s : State} {m : MethodId} {args : Array Value} {below : List Frame} {meth : Method} {c : Code} {E : Ev} {S0 : Hp} {r : Hp} (C : ho_I p s m args meth c RX12 cX12_qSums 3 none) :
    ∀ (k : Nat) (x1 : Int32) (S : Hp), f_X12_qSums_53 k x1 S = some r → ho_G p l e s m args below meth c yM E S0 6 3 (none, r) 53 [(0, .ref (E.2.1 0)), (1, .int x1)] [] S := by
  intro k
  induction k with
  | zero =>
    intro x1 S h
    exact absurd (show (none : Option Hp) = some r from h) (by simp)
  | succ k ih =>
    intro x1 S h H locs ls hR hl
    rw [f_X12_qSums_53] at h
    refine lv_aload_n C.1 C.2.1 dX12_qSums_53 rfl (lv_at hl 0 rfl) ?_
    refine ho_getI C cf12 fM_264 hR aM_0 dX12_qSums_54 ?_
    refine lv_if_ne (tgt := 78) C.1 C.2.1 dX12_qSums_57 (by decide) (fun hc => ?_) (fun hc => ?_)
    · replace h := if_f h hc
      exact w_X12_qSums_78 C x1 S h _ _ _ hR (lv_sub hl [0, 1] rfl)
    · replace h := if_t h hc
      refine lv_aload_n C.1 C.2.1 dX12_qSums_60 rfl (lv_at hl 0 rfl) ?_
      refine ho_getI C cf12 fM_355 hR aM_0 dX12_qSums_61 ?_
      refine lv_aload_n C.1 C.2.1 dX12_qSums_64 rfl (lv_at hl 0 rfl) ?_
      refine ho_getI C cf12 fM_361 hR aM_0 dX12_qSums_65 ?_
      refine lv_icmp_le (tgt := 78) C.1 C.2.1 dX12_qSums_68 (by decide) (fun hc => ?_) (fun hc => ?_)
      · replace h := if_t h hc
        exact w_X12_qSums_78 C x1 S h _ _ _ hR (lv_sub hl [0, 1] rfl)
      · replace h := if_f h hc
        refine lv_aload_n C.1 C.2.1 dX12_qSums_71 rfl (lv_at hl 0 rfl) ?_
        obtain ⟨S1, h1, h⟩ := ob_ok h
        refine hr_Vv (S' := S1) (As := []) (rest := []) C cf12 (c_X12_qDrops l E _ _ h1) yv_X12_qDrops lk_RX12_613 rfl aM_0 rfl rfl hl.1 (Nat.le_of_ble_eq_true rfl) (by decide) (by decide) hR (ho_A hR) dX12_qSums_72 (fun H locs hR => ?_)
        refine lv_goto (tgt := 53) C.1 C.2.1 dX12_qSums_75 (by decide) ?_
        exact ih x1 S1 h _ _ _ hR (lv_sub hl [0, 1] rfl)
def f_X12_qSums_49 (K15 : Int32 → Int32 → Hp → Option Hp) (x1 : Int32) (z0 : Int32) (S : Hp) : Option Hp :=
  K15 x1 z0 S
set_option maxHeartbeats 4000000 in
set_option maxRecDepth 100000 in
theorem w_X12_qSums_49 {p : Program} {l : Launch} {e : Env} {s : State} {m : MethodId} {args : Array Value} {below : List Frame} {meth : Method} {c : Code} {E : Ev} {S0 : Hp} {r : Hp} (C : ho_I p s m args meth c RX12 cX12_qSums 3 none) (K15 : Int32 → Int32 → Hp → Option Hp) (hK15 : ∀ (y1 : Int32) (y2 : Int32) (S : Hp), K15 y1 y2 S = some r → ho_G p l e s m args below meth c yM E S0 6 3 (none, r) 15 [(0, .ref (E.2.1 0)), (1, .int y1), (2, .int y2)] [] S) :
    ∀ (x1 : Int32) (z0 : Int32) (S : Hp), f_X12_qSums_49 K15 x1 z0 S = some r → ho_G p l e s m args below meth c yM E S0 6 3 (none, r) 49 [(0, .ref (E.2.1 0)), (1, .int x1)] [.int z0] S := by
  intro x1 z0 S h H locs ls hR hl
  unfold f_X12_qSums_49 at h
  refine lv_istore_n (lv' := [(2, .int z0), (0, .ref (E.2.1 0)), (1, .int x1)]) C.1 C.2.1 dX12_qSums_49 rfl hl (by decide) rfl (fun ls hl => ?_)
  refine lv_goto (tgt := 15) C.1 C.2.1 dX12_qSums_50 (by decide) ?_
  exact hK15 x1 z0 S h _ _ _ hR (lv_sub hl [1, 2, 0] rfl)
def f_X12_qSums_48 (K15 : Int32 → Int32 → Hp → Option Hp) (x1 : Int32) (S : Hp) : Option Hp :=
  f_X12_qSums_49 K15 x1 (0 : Int32) S
set_option maxHeartbeats 4000000 in
set_option maxRecDepth 100000 in
theorem w_X12_qSums_48 {p : Program} {l : Launch} {e : Env} {s : State} {m : MethodId} {args : Array Value} {below : List Frame} {meth : Method} {c : Code} {E : Ev} {S0 : Hp} {r : Hp} (C : ho_I p s m args meth c RX12 cX12_qSums 3 none) (K15 : Int32 → Int32 → Hp → Option Hp) (hK15 : ∀ (y1 : Int32) (y2 : Int32) (S : Hp), K15 y1 y2 S = some r → ho_G p l e s m args below meth c yM E S0 6 3 (none, r) 15 [(0, .ref (E.2.1 0)), (1, .int y1), (2, .int y2)] [] S) :
    ∀ (x1 : Int32) (S : Hp), f_X12_qSums_48 K15 x1 S = some r → ho_G p l e s m args below meth c yM E S0 6 3 (none, r) 48 [(0, .ref (E.2.1 0)), (1, .int x1)] [] S := by
  intro x1 S h H locs ls hR hl
  unfold f_X12_qSums_48 at h
  refine lv_iconst (v := (0 : Int32)) C.1 C.2.1 dX12_qSums_48 (by decide) ?_
  exact w_X12_qSums_49 C K15 hK15 x1 (0 : Int32) S h _ _ _ hR (lv_sub hl [0, 1] rfl)
def f_X12_qSums_15 : Nat → Int32 → Int32 → Hp → Option Hp
  | 0, _, _, _ => none
  | k + 1, x1, x2, S => if x2 = 0 then f_X12_qSums_53 5000 x1 S else if (S.1 0 5) = 0 then ob (f_X12_qPartTold S) (fun S1 => if (S1.1 0 5) = 0 then ob2 (f_X12_qGoesOn S1) (fun r2 S2 => if r2 = 0 then f_X12_qSums_48 (f_X12_qSums_15 k) x1 S2 else f_X12_qSums_49 (f_X12_qSums_15 k) x1 (1 : Int32) S2) else f_X12_qSums_48 (f_X12_qSums_15 k) x1 S1) else f_X12_qSums_53 5000 x1 S
set_option maxHeartbeats 4000000 in
set_option maxRecDepth 100000 in
theorem w_X12_qSums_15 {p : Program} {l : Launch} {e : Env} {s : State} {m : MethodId} {args : Array Value} {below : List Frame} {meth : Method} {c : Code} {E : Ev} {S0 : Hp} {r : Hp} (C : ho_I p s m args meth c RX12 cX12_qSums 3 none) :
    ∀ (k : Nat) (x1 : Int32) (x2 : Int32) (S : Hp), f_X12_qSums_15 k x1 x2 S = some r → ho_G p l e s m args below meth c yM E S0 6 3 (none, r) 15 [(0, .ref (E.2.1 0)), (1, .int x1), (2, .int x2)] [] S := by
  intro k
  induction k with
  | zero =>
    intro x1 x2 S h
    exact absurd (show (none : Option Hp) = some r from h) (by simp)
  | succ k ih =>
    intro x1 x2 S h H locs ls hR hl
    rw [f_X12_qSums_15] at h
    refine lv_iload_n C.1 C.2.1 dX12_qSums_15 rfl (lv_at hl 2 rfl) ?_
    refine lv_if_eq (tgt := 53) C.1 C.2.1 dX12_qSums_16 (by decide) (fun hc => ?_) (fun hc => ?_)
    · replace h := if_t h hc
      exact w_X12_qSums_53 C 5000 x1 S h _ _ _ hR (lv_sub hl [0, 1] rfl)
    · replace h := if_f h hc
      refine lv_aload_n C.1 C.2.1 dX12_qSums_19 rfl (lv_at hl 0 rfl) ?_
      refine ho_getI C cf12 fM_264 hR aM_0 dX12_qSums_20 ?_
      refine lv_if_ne (tgt := 53) C.1 C.2.1 dX12_qSums_23 (by decide) (fun hc => ?_) (fun hc => ?_)
      · replace h := if_f h hc
        exact w_X12_qSums_53 C 5000 x1 S h _ _ _ hR (lv_sub hl [0, 1] rfl)
      · replace h := if_t h hc
        refine lv_aload_n C.1 C.2.1 dX12_qSums_26 rfl (lv_at hl 0 rfl) ?_
        obtain ⟨S1, h1, h⟩ := ob_ok h
        refine hr_Vv (S' := S1) (As := []) (rest := []) C cf12 (c_X12_qPartTold l E _ _ h1) yv_X12_qPartTold lk_RX12_643 rfl aM_0 rfl rfl hl.1 (Nat.le_of_ble_eq_true rfl) (by decide) (by decide) hR (ho_A hR) dX12_qSums_27 (fun H locs hR => ?_)
        refine lv_aload_n C.1 C.2.1 dX12_qSums_30 rfl (lv_at hl 0 rfl) ?_
        refine ho_getI C cf12 fM_264 hR aM_0 dX12_qSums_31 ?_
        refine lv_if_ne (tgt := 48) C.1 C.2.1 dX12_qSums_34 (by decide) (fun hc => ?_) (fun hc => ?_)
        · replace h := if_f h hc
          exact w_X12_qSums_48 C (f_X12_qSums_15 k) ih x1 S1 h _ _ _ hR (lv_sub hl [0, 1] rfl)
        · replace h := if_t h hc
          refine lv_aload_n C.1 C.2.1 dX12_qSums_37 rfl (lv_at hl 0 rfl) ?_
          obtain ⟨r2, S2, h2, h⟩ := ob2_ok h
          refine hr_Vi (v := r2) (S' := S2) (As := []) (rest := []) C cf12 (c_X12_qGoesOn l E _ _ h2) yv_X12_qGoesOn lk_RX12_646 rfl aM_0 rfl rfl hl.1 (Nat.le_of_ble_eq_true rfl) (by decide) (by decide) hR (ho_A hR) dX12_qSums_38 (fun H locs hR => ?_)
          refine lv_if_eq (tgt := 48) C.1 C.2.1 dX12_qSums_41 (by decide) (fun hc => ?_) (fun hc => ?_)
          · replace h := if_t h hc
            exact w_X12_qSums_48 C (f_X12_qSums_15 k) ih x1 S2 h _ _ _ hR (lv_sub hl [0, 1] rfl)
          · replace h := if_f h hc
            refine lv_iconst (v := (1 : Int32)) C.1 C.2.1 dX12_qSums_44 (by decide) ?_
            refine lv_goto (tgt := 49) C.1 C.2.1 dX12_qSums_45 (by decide) ?_
            exact w_X12_qSums_49 C (f_X12_qSums_15 k) ih x1 (1 : Int32) S2 h _ _ _ hR (lv_sub hl [0, 1] rfl)
def f_X12_qSums (S : Hp) : Option Hp :=
  le1 (S.1 0 104) (fun v1 => le1 (ho_sI S 0 104 (S.1 0 102)) (fun S2 => f_X12_qSums_15 5000 v1 (1 : Int32) S2))
set_option maxHeartbeats 4000000 in
set_option maxRecDepth 100000 in
theorem c_X12_qSums (l : Launch) (E : Ev) (S : Hp) (r : Hp) (h : f_X12_qSums S = some r) : ho_M l yM E yX12_qSums cX12_qSums 3 none 6 [.ref (E.2.1 0)] S (none, r) := by
  refine ho_in (by decide) (Nat.le_of_ble_eq_true rfl) ?_
  intro p e s m args below meth c C hR ls hl
  have C : ho_I p s m args meth c RX12 cX12_qSums 3 none := C
  have hl : lv_has ls 3 [(0, .ref (E.2.1 0))] := hl
  unfold f_X12_qSums at h
  refine lv_aload_n C.1 C.2.1 dX12_qSums_0 rfl (lv_at hl 0 rfl) ?_
  refine ho_getI C cf12 fM_361 hR aM_0 dX12_qSums_1 ?_
  refine lv_topi (fun v1 e1 => ?_)
  replace h := le1_at e1 h
  refine lv_istore_n (lv' := [(1, .int v1), (0, .ref (E.2.1 0))]) C.1 C.2.1 dX12_qSums_4 rfl hl (by decide) rfl (fun ls hl => ?_)
  refine lv_aload_n C.1 C.2.1 dX12_qSums_5 rfl (lv_at hl 1 rfl) ?_
  refine lv_aload_n C.1 C.2.1 dX12_qSums_6 rfl (lv_at hl 1 rfl) ?_
  refine ho_getI C cf12 fM_355 hR aM_0 dX12_qSums_7 ?_
  obtain ⟨S2, e2, h⟩ := le1_ok h
  refine hr_putI C cf12 fM_361 hR aM_0 e2 dX12_qSums_10 (fun H locs hR => ?_)
  refine lv_iconst (v := (1 : Int32)) C.1 C.2.1 dX12_qSums_13 (by decide) ?_
  refine lv_istore_n (lv' := [(2, .int (1 : Int32)), (1, .int v1), (0, .ref (E.2.1 0))]) C.1 C.2.1 dX12_qSums_14 rfl hl (by decide) rfl (fun ls hl => ?_)
  exact w_X12_qSums_15 C 5000 v1 (1 : Int32) S2 h _ _ _ hR (lv_sub hl [2, 1, 0] rfl)
theorem dX12_codesTold_0 : decode cX12_codesTold 0 = .ok (.aload_n 0, 1) := by decide +kernel
theorem dX12_codesTold_1 : decode cX12_codesTold 1 = .ok (.getfield 264, 3) := by decide +kernel
theorem dX12_codesTold_4 : decode cX12_codesTold 4 = .ok (.ifCond .ne 19, 3) := by decide +kernel
theorem dX12_codesTold_7 : decode cX12_codesTold 7 = .ok (.aload_n 0, 1) := by decide +kernel
theorem dX12_codesTold_8 : decode cX12_codesTold 8 = .ok (.getfield 130, 3) := by decide +kernel
theorem dX12_codesTold_11 : decode cX12_codesTold 11 = .ok (.iload_n 1, 1) := by decide +kernel
theorem dX12_codesTold_12 : decode cX12_codesTold 12 = .ok (.iaload, 1) := by decide +kernel
theorem dX12_codesTold_13 : decode cX12_codesTold 13 = .ok (.iconst (-1), 1) := by decide +kernel
theorem dX12_codesTold_14 : decode cX12_codesTold 14 = .ok (.if_icmp .eq 9, 3) := by decide +kernel
theorem dX12_codesTold_17 : decode cX12_codesTold 17 = .ok (.aload_n 0, 1) := by decide +kernel
theorem dX12_codesTold_18 : decode cX12_codesTold 18 = .ok (.iconst 5, 1) := by decide +kernel
theorem dX12_codesTold_19 : decode cX12_codesTold 19 = .ok (.iload_n 2, 1) := by decide +kernel
theorem dX12_codesTold_20 : decode cX12_codesTold 20 = .ok (.invokevirtual 294, 3) := by decide +kernel
theorem dX12_codesTold_23 : decode cX12_codesTold 23 = .ok (.aload_n 0, 1) := by decide +kernel
theorem dX12_codesTold_24 : decode cX12_codesTold 24 = .ok (.getfield 264, 3) := by decide +kernel
theorem dX12_codesTold_27 : decode cX12_codesTold 27 = .ok (.ifCond .eq 4, 3) := by decide +kernel
theorem dX12_codesTold_30 : decode cX12_codesTold 30 = .ok (.return_, 1) := by decide +kernel
theorem dX12_codesTold_31 : decode cX12_codesTold 31 = .ok (.aload_n 0, 1) := by decide +kernel
theorem dX12_codesTold_32 : decode cX12_codesTold 32 = .ok (.iload_n 1, 1) := by decide +kernel
theorem dX12_codesTold_33 : decode cX12_codesTold 33 = .ok (.putfield 319, 3) := by decide +kernel
theorem dX12_codesTold_36 : decode cX12_codesTold 36 = .ok (.aload_n 0, 1) := by decide +kernel
theorem dX12_codesTold_37 : decode cX12_codesTold 37 = .ok (.iconst 0, 1) := by decide +kernel
theorem dX12_codesTold_38 : decode cX12_codesTold 38 = .ok (.putfield 352, 3) := by decide +kernel
theorem dX12_codesTold_41 : decode cX12_codesTold 41 = .ok (.aload_n 0, 1) := by decide +kernel
theorem dX12_codesTold_42 : decode cX12_codesTold 42 = .ok (.iconst 0, 1) := by decide +kernel
theorem dX12_codesTold_43 : decode cX12_codesTold 43 = .ok (.putfield 355, 3) := by decide +kernel
theorem dX12_codesTold_46 : decode cX12_codesTold 46 = .ok (.aload_n 0, 1) := by decide +kernel
theorem dX12_codesTold_47 : decode cX12_codesTold 47 = .ok (.iconst 0, 1) := by decide +kernel
theorem dX12_codesTold_48 : decode cX12_codesTold 48 = .ok (.putfield 358, 3) := by decide +kernel
theorem dX12_codesTold_51 : decode cX12_codesTold 51 = .ok (.aload_n 0, 1) := by decide +kernel
theorem dX12_codesTold_52 : decode cX12_codesTold 52 = .ok (.iconst 0, 1) := by decide +kernel
theorem dX12_codesTold_53 : decode cX12_codesTold 53 = .ok (.putfield 361, 3) := by decide +kernel
theorem dX12_codesTold_56 : decode cX12_codesTold 56 = .ok (.aload_n 0, 1) := by decide +kernel
theorem dX12_codesTold_57 : decode cX12_codesTold 57 = .ok (.invokevirtual 364, 3) := by decide +kernel
theorem dX12_codesTold_60 : decode cX12_codesTold 60 = .ok (.aload_n 0, 1) := by decide +kernel
theorem dX12_codesTold_61 : decode cX12_codesTold 61 = .ok (.getfield 264, 3) := by decide +kernel
theorem dX12_codesTold_64 : decode cX12_codesTold 64 = .ok (.ifCond .eq 4, 3) := by decide +kernel
theorem dX12_codesTold_67 : decode cX12_codesTold 67 = .ok (.return_, 1) := by decide +kernel
theorem dX12_codesTold_68 : decode cX12_codesTold 68 = .ok (.aload_n 0, 1) := by decide +kernel
theorem dX12_codesTold_69 : decode cX12_codesTold 69 = .ok (.getfield 130, 3) := by decide +kernel
theorem dX12_codesTold_72 : decode cX12_codesTold 72 = .ok (.iload_n 1, 1) := by decide +kernel
theorem dX12_codesTold_73 : decode cX12_codesTold 73 = .ok (.aload_n 0, 1) := by decide +kernel
theorem dX12_codesTold_74 : decode cX12_codesTold 74 = .ok (.getfield 367, 3) := by decide +kernel
theorem dX12_codesTold_77 : decode cX12_codesTold 77 = .ok (.iastore, 1) := by decide +kernel
theorem dX12_codesTold_78 : decode cX12_codesTold 78 = .ok (.iconst 0, 1) := by decide +kernel
theorem dX12_codesTold_79 : decode cX12_codesTold 79 = .ok (.istore_n 3, 1) := by decide +kernel
theorem dX12_codesTold_80 : decode cX12_codesTold 80 = .ok (.iload_n 3, 1) := by decide +kernel
theorem dX12_codesTold_81 : decode cX12_codesTold 81 = .ok (.aload_n 0, 1) := by decide +kernel
theorem dX12_codesTold_82 : decode cX12_codesTold 82 = .ok (.getfield 352, 3) := by decide +kernel
theorem dX12_codesTold_85 : decode cX12_codesTold 85 = .ok (.if_icmp .ge 34, 3) := by decide +kernel
theorem dX12_codesTold_88 : decode cX12_codesTold 88 = .ok (.aload_n 0, 1) := by decide +kernel
theorem dX12_codesTold_89 : decode cX12_codesTold 89 = .ok (.getfield 136, 3) := by decide +kernel
theorem dX12_codesTold_92 : decode cX12_codesTold 92 = .ok (.aload_n 0, 1) := by decide +kernel
theorem dX12_codesTold_93 : decode cX12_codesTold 93 = .ok (.getfield 367, 3) := by decide +kernel
theorem dX12_codesTold_96 : decode cX12_codesTold 96 = .ok (.aload_n 0, 1) := by decide +kernel
theorem dX12_codesTold_97 : decode cX12_codesTold 97 = .ok (.getfield 249, 3) := by decide +kernel
theorem dX12_codesTold_100 : decode cX12_codesTold 100 = .ok (.iload_n 3, 1) := by decide +kernel
theorem dX12_codesTold_101 : decode cX12_codesTold 101 = .ok (.iaload, 1) := by decide +kernel
theorem dX12_codesTold_102 : decode cX12_codesTold 102 = .ok (.iastore, 1) := by decide +kernel
theorem dX12_codesTold_103 : decode cX12_codesTold 103 = .ok (.aload_n 0, 1) := by decide +kernel
theorem dX12_codesTold_104 : decode cX12_codesTold 104 = .ok (.dup, 1) := by decide +kernel
theorem dX12_codesTold_105 : decode cX12_codesTold 105 = .ok (.getfield 367, 3) := by decide +kernel
theorem dX12_codesTold_108 : decode cX12_codesTold 108 = .ok (.iconst 1, 1) := by decide +kernel
theorem dX12_codesTold_109 : decode cX12_codesTold 109 = .ok (.iadd, 1) := by decide +kernel
theorem dX12_codesTold_110 : decode cX12_codesTold 110 = .ok (.putfield 367, 3) := by decide +kernel
theorem dX12_codesTold_113 : decode cX12_codesTold 113 = .ok (.iinc 3 1, 3) := by decide +kernel
theorem dX12_codesTold_116 : decode cX12_codesTold 116 = .ok (.goto (-36), 3) := by decide +kernel
theorem dX12_codesTold_119 : decode cX12_codesTold 119 = .ok (.aload_n 0, 1) := by decide +kernel
theorem dX12_codesTold_120 : decode cX12_codesTold 120 = .ok (.getfield 133, 3) := by decide +kernel
theorem dX12_codesTold_123 : decode cX12_codesTold 123 = .ok (.iload_n 1, 1) := by decide +kernel
theorem dX12_codesTold_124 : decode cX12_codesTold 124 = .ok (.aload_n 0, 1) := by decide +kernel
theorem dX12_codesTold_125 : decode cX12_codesTold 125 = .ok (.getfield 367, 3) := by decide +kernel
theorem dX12_codesTold_128 : decode cX12_codesTold 128 = .ok (.iastore, 1) := by decide +kernel
theorem dX12_codesTold_129 : decode cX12_codesTold 129 = .ok (.return_, 1) := by decide +kernel
def f_X12_codesTold_80 : Nat → Int32 → Int32 → Hp → Option Hp
  | 0, _, _, _ => none
  | k + 1, x1, x3, S => if (S.1 0 100) ≤ x3 then stI S 49 4 x1 (S.1 0 50) (fun S1 => some S1) else ldI S 100 1700 x3 (fun v2 => stI S 50 3200 (S.1 0 50) v2 (fun S3 => le1 (ho_sI S3 0 50 ((S3.1 0 50) + (1 : Int32))) (fun S4 => le1 (x3 + (1 : Int32)) (fun v5 => f_X12_codesTold_80 k x1 v5 S4))))
set_option maxHeartbeats 4000000 in
set_option maxRecDepth 100000 in
theorem w_X12_codesTold_80 {p : Program} {l : Launch} {e : Env} {s : State} {m : MethodId} {args : Array Value} {below : List Frame} {meth : Method} {c : Code} {E : Ev} {S0 : Hp} {r : Hp} (C : ho_I p s m args meth c RX12 cX12_codesTold 4 none) :
    ∀ (k : Nat) (x1 : Int32) (x3 : Int32) (S : Hp), f_X12_codesTold_80 k x1 x3 S = some r → ho_G p l e s m args below meth c yM E S0 7 4 (none, r) 80 [(0, .ref (E.2.1 0)), (1, .int x1), (3, .int x3)] [] S := by
  intro k
  induction k with
  | zero =>
    intro x1 x3 S h
    exact absurd (show (none : Option Hp) = some r from h) (by simp)
  | succ k ih =>
    intro x1 x3 S h H locs ls hR hl
    rw [f_X12_codesTold_80] at h
    refine lv_iload_n C.1 C.2.1 dX12_codesTold_80 rfl (lv_at hl 2 rfl) ?_
    refine lv_aload_n C.1 C.2.1 dX12_codesTold_81 rfl (lv_at hl 0 rfl) ?_
    refine ho_getI C cf12 fM_352 hR aM_0 dX12_codesTold_82 ?_
    refine lv_icmp_ge (tgt := 119) C.1 C.2.1 dX12_codesTold_85 (by decide) (fun hc => ?_) (fun hc => ?_)
    · replace h := if_t h hc
      refine lv_aload_n C.1 C.2.1 dX12_codesTold_119 rfl (lv_at hl 0 rfl) ?_
      refine ho_getR (a' := 49) C cf12 fM_133 hR aM_0 rfl dX12_codesTold_120 ?_
      refine lv_iload_n C.1 C.2.1 dX12_codesTold_123 rfl (lv_at hl 1 rfl) ?_
      refine lv_aload_n C.1 C.2.1 dX12_codesTold_124 rfl (lv_at hl 0 rfl) ?_
      refine ho_getI C cf12 fM_367 hR aM_0 dX12_codesTold_125 ?_
      obtain ⟨S1, e1, hi1, h⟩ := stI_ok h
      refine hr_ist C hR aM_49 hi1 e1 dX12_codesTold_128 (fun H locs hR => ?_)
      exact ho_vret C hR h dX12_codesTold_129
    · replace h := if_f h hc
      refine lv_aload_n C.1 C.2.1 dX12_codesTold_88 rfl (lv_at hl 0 rfl) ?_
      refine ho_getR (a' := 50) C cf12 fM_136 hR aM_0 rfl dX12_codesTold_89 ?_
      refine lv_aload_n C.1 C.2.1 dX12_codesTold_92 rfl (lv_at hl 0 rfl) ?_
      refine ho_getI C cf12 fM_367 hR aM_0 dX12_codesTold_93 ?_
      refine lv_aload_n C.1 C.2.1 dX12_codesTold_96 rfl (lv_at hl 0 rfl) ?_
      refine ho_getR (a' := 100) C cf12 fM_249 hR aM_0 rfl dX12_codesTold_97 ?_
      refine lv_iload_n C.1 C.2.1 dX12_codesTold_100 rfl (lv_at hl 2 rfl) ?_
      obtain ⟨v2, e2, hi2, h⟩ := ldI_ok h
      refine hr_ild C hR aM_100 hi2 e2 dX12_codesTold_101 ?_
      obtain ⟨S3, e3, hi3, h⟩ := stI_ok h
      refine hr_ist C hR aM_50 hi3 e3 dX12_codesTold_102 (fun H locs hR => ?_)
      refine lv_aload_n C.1 C.2.1 dX12_codesTold_103 rfl (lv_at hl 0 rfl) ?_
      refine lv_dup C.1 C.2.1 dX12_codesTold_104 rfl ?_
      refine ho_getI C cf12 fM_367 hR aM_0 dX12_codesTold_105 ?_
      refine lv_iconst (v := (1 : Int32)) C.1 C.2.1 dX12_codesTold_108 (by decide) ?_
      refine lv_iadd C.1 C.2.1 dX12_codesTold_109 ?_
      obtain ⟨S4, e4, h⟩ := le1_ok h
      refine hr_putI C cf12 fM_367 hR aM_0 e4 dX12_codesTold_110 (fun H locs hR => ?_)
      obtain ⟨v5, e5, h⟩ := le1_ok h
      refine lv_iinc (v := v5) (lv' := [(3, .int v5), (0, .ref (E.2.1 0)), (1, .int x1)]) C.1 C.2.1 dX12_codesTold_113 hl (k := 2) rfl (by rw [e5]; rfl) (by decide) rfl (fun ls hl => ?_)
      refine lv_goto (tgt := 80) C.1 C.2.1 dX12_codesTold_116 (by decide) ?_
      exact ih x1 v5 S4 h _ _ _ hR (lv_sub hl [1, 2, 0] rfl)
def f_X12_codesTold_23 (x1 : Int32) (S : Hp) : Option Hp :=
  if (S.1 0 5) = 0 then le1 (ho_sI S 0 53 x1) (fun S1 => le1 (ho_sI S1 0 100 (0 : Int32)) (fun S2 => le1 (ho_sI S2 0 102 (0 : Int32)) (fun S3 => le1 (ho_sI S3 0 103 (0 : Int32)) (fun S4 => le1 (ho_sI S4 0 104 (0 : Int32)) (fun S5 => ob (f_X12_qSums S5) (fun S6 => if (S6.1 0 5) = 0 then stI S6 48 4 x1 (S6.1 0 50) (fun S7 => f_X12_codesTold_80 5000 x1 (0 : Int32) S7) else some S6)))))) else some S
set_option maxHeartbeats 4000000 in
set_option maxRecDepth 100000 in
theorem w_X12_codesTold_23 {p : Program} {l : Launch} {e : Env} {s : State} {m : MethodId} {args : Array Value} {below : List Frame} {meth : Method} {c : Code} {E : Ev} {S0 : Hp} {r : Hp} (C : ho_I p s m args meth c RX12 cX12_codesTold 4 none) :
    ∀ (x1 : Int32) (S : Hp), f_X12_codesTold_23 x1 S = some r → ho_G p l e s m args below meth c yM E S0 7 4 (none, r) 23 [(0, .ref (E.2.1 0)), (1, .int x1)] [] S := by
  intro x1 S h H locs ls hR hl
  unfold f_X12_codesTold_23 at h
  refine lv_aload_n C.1 C.2.1 dX12_codesTold_23 rfl (lv_at hl 0 rfl) ?_
  refine ho_getI C cf12 fM_264 hR aM_0 dX12_codesTold_24 ?_
  refine lv_if_eq (tgt := 31) C.1 C.2.1 dX12_codesTold_27 (by decide) (fun hc => ?_) (fun hc => ?_)
  · replace h := if_t h hc
    refine lv_aload_n C.1 C.2.1 dX12_codesTold_31 rfl (lv_at hl 0 rfl) ?_
    refine lv_iload_n C.1 C.2.1 dX12_codesTold_32 rfl (lv_at hl 1 rfl) ?_
    obtain ⟨S1, e1, h⟩ := le1_ok h
    refine hr_putI C cf12 fM_319 hR aM_0 e1 dX12_codesTold_33 (fun H locs hR => ?_)
    refine lv_aload_n C.1 C.2.1 dX12_codesTold_36 rfl (lv_at hl 0 rfl) ?_
    refine lv_iconst (v := (0 : Int32)) C.1 C.2.1 dX12_codesTold_37 (by decide) ?_
    obtain ⟨S2, e2, h⟩ := le1_ok h
    refine hr_putI C cf12 fM_352 hR aM_0 e2 dX12_codesTold_38 (fun H locs hR => ?_)
    refine lv_aload_n C.1 C.2.1 dX12_codesTold_41 rfl (lv_at hl 0 rfl) ?_
    refine lv_iconst (v := (0 : Int32)) C.1 C.2.1 dX12_codesTold_42 (by decide) ?_
    obtain ⟨S3, e3, h⟩ := le1_ok h
    refine hr_putI C cf12 fM_355 hR aM_0 e3 dX12_codesTold_43 (fun H locs hR => ?_)
    refine lv_aload_n C.1 C.2.1 dX12_codesTold_46 rfl (lv_at hl 0 rfl) ?_
    refine lv_iconst (v := (0 : Int32)) C.1 C.2.1 dX12_codesTold_47 (by decide) ?_
    obtain ⟨S4, e4, h⟩ := le1_ok h
    refine hr_putI C cf12 fM_358 hR aM_0 e4 dX12_codesTold_48 (fun H locs hR => ?_)
    refine lv_aload_n C.1 C.2.1 dX12_codesTold_51 rfl (lv_at hl 0 rfl) ?_
    refine lv_iconst (v := (0 : Int32)) C.1 C.2.1 dX12_codesTold_52 (by decide) ?_
    obtain ⟨S5, e5, h⟩ := le1_ok h
    refine hr_putI C cf12 fM_361 hR aM_0 e5 dX12_codesTold_53 (fun H locs hR => ?_)
    refine lv_aload_n C.1 C.2.1 dX12_codesTold_56 rfl (lv_at hl 0 rfl) ?_
    obtain ⟨S6, h6, h⟩ := ob_ok h
    refine hr_Vv (S' := S6) (As := []) (rest := []) C cf12 (c_X12_qSums l E _ _ h6) yv_X12_qSums lk_RX12_364 rfl aM_0 rfl rfl hl.1 (Nat.le_of_ble_eq_true rfl) (by decide) (by decide) hR (ho_A hR) dX12_codesTold_57 (fun H locs hR => ?_)
    refine lv_aload_n C.1 C.2.1 dX12_codesTold_60 rfl (lv_at hl 0 rfl) ?_
    refine ho_getI C cf12 fM_264 hR aM_0 dX12_codesTold_61 ?_
    refine lv_if_eq (tgt := 68) C.1 C.2.1 dX12_codesTold_64 (by decide) (fun hc => ?_) (fun hc => ?_)
    · replace h := if_t h hc
      refine lv_aload_n C.1 C.2.1 dX12_codesTold_68 rfl (lv_at hl 0 rfl) ?_
      refine ho_getR (a' := 48) C cf12 fM_130 hR aM_0 rfl dX12_codesTold_69 ?_
      refine lv_iload_n C.1 C.2.1 dX12_codesTold_72 rfl (lv_at hl 1 rfl) ?_
      refine lv_aload_n C.1 C.2.1 dX12_codesTold_73 rfl (lv_at hl 0 rfl) ?_
      refine ho_getI C cf12 fM_367 hR aM_0 dX12_codesTold_74 ?_
      obtain ⟨S7, e7, hi7, h⟩ := stI_ok h
      refine hr_ist C hR aM_48 hi7 e7 dX12_codesTold_77 (fun H locs hR => ?_)
      refine lv_iconst (v := (0 : Int32)) C.1 C.2.1 dX12_codesTold_78 (by decide) ?_
      refine lv_istore_n (lv' := [(3, .int (0 : Int32)), (0, .ref (E.2.1 0)), (1, .int x1)]) C.1 C.2.1 dX12_codesTold_79 rfl hl (by decide) rfl (fun ls hl => ?_)
      exact w_X12_codesTold_80 C 5000 x1 (0 : Int32) S7 h _ _ _ hR (lv_sub hl [1, 2, 0] rfl)
    · replace h := if_f h hc
      exact ho_vret C hR h dX12_codesTold_67
  · replace h := if_f h hc
    exact ho_vret C hR h dX12_codesTold_30
def f_X12_codesTold (x1 : Int32) (x2 : Int32) (S : Hp) : Option Hp :=
  if (S.1 0 5) = 0 then ldI S 48 4 x1 (fun v1 => if v1 = (-1 : Int32) then f_X12_codesTold_23 x1 S else ob (f_X12_fail (5 : Int32) x2 S) (fun S2 => f_X12_codesTold_23 x1 S2)) else f_X12_codesTold_23 x1 S
set_option maxHeartbeats 4000000 in
set_option maxRecDepth 100000 in
theorem c_X12_codesTold (l : Launch) (E : Ev) (x1 : Int32) (x2 : Int32) (S : Hp) (r : Hp) (h : f_X12_codesTold x1 x2 S = some r) : ho_M l yM E yX12_codesTold cX12_codesTold 4 none 7 [.ref (E.2.1 0), .int x1, .int x2] S (none, r) := by
  refine ho_in (by decide) (Nat.le_of_ble_eq_true rfl) ?_
  intro p e s m args below meth c C hR ls hl
  have C : ho_I p s m args meth c RX12 cX12_codesTold 4 none := C
  have hl : lv_has ls 4 [(0, .ref (E.2.1 0)), (1, .int x1), (2, .int x2)] := hl
  unfold f_X12_codesTold at h
  refine lv_aload_n C.1 C.2.1 dX12_codesTold_0 rfl (lv_at hl 0 rfl) ?_
  refine ho_getI C cf12 fM_264 hR aM_0 dX12_codesTold_1 ?_
  refine lv_if_ne (tgt := 23) C.1 C.2.1 dX12_codesTold_4 (by decide) (fun hc => ?_) (fun hc => ?_)
  · replace h := if_f h hc
    exact w_X12_codesTold_23 C x1 S h _ _ _ hR (lv_sub hl [0, 1] rfl)
  · replace h := if_t h hc
    refine lv_aload_n C.1 C.2.1 dX12_codesTold_7 rfl (lv_at hl 0 rfl) ?_
    refine ho_getR (a' := 48) C cf12 fM_130 hR aM_0 rfl dX12_codesTold_8 ?_
    refine lv_iload_n C.1 C.2.1 dX12_codesTold_11 rfl (lv_at hl 1 rfl) ?_
    obtain ⟨v1, e1, hi1, h⟩ := ldI_ok h
    refine hr_ild C hR aM_48 hi1 e1 dX12_codesTold_12 ?_
    refine lv_iconst (v := (-1 : Int32)) C.1 C.2.1 dX12_codesTold_13 (by decide) ?_
    refine lv_icmp_eq (tgt := 23) C.1 C.2.1 dX12_codesTold_14 (by decide) (fun hc => ?_) (fun hc => ?_)
    · replace h := if_t h hc
      exact w_X12_codesTold_23 C x1 S h _ _ _ hR (lv_sub hl [0, 1] rfl)
    · replace h := if_f h hc
      refine lv_aload_n C.1 C.2.1 dX12_codesTold_17 rfl (lv_at hl 0 rfl) ?_
      refine lv_iconst (v := (5 : Int32)) C.1 C.2.1 dX12_codesTold_18 (by decide) ?_
      refine lv_iload_n C.1 C.2.1 dX12_codesTold_19 rfl (lv_at hl 2 rfl) ?_
      obtain ⟨S2, h2, h⟩ := ob_ok h
      refine hr_Vv (S' := S2) (As := [.int (5 : Int32), .int x2]) (rest := []) C cf12 (c_X12_fail l E (5 : Int32) x2 _ _ h2) yv_X12_fail lk_RX12_294 rfl aM_0 rfl rfl hl.1 (Nat.le_of_ble_eq_true rfl) (by decide) (by decide) hR (ho_A hR) dX12_codesTold_20 (fun H locs hR => ?_)
      exact w_X12_codesTold_23 C x1 S2 h _ _ _ hR (lv_sub hl [0, 1] rfl)
theorem dX12_statementTold_0 : decode cX12_statementTold 0 = .ok (.aload_n 0, 1) := by decide +kernel
theorem dX12_statementTold_1 : decode cX12_statementTold 1 = .ok (.getfield 270, 3) := by decide +kernel
theorem dX12_statementTold_4 : decode cX12_statementTold 4 = .ok (.istore_n 1, 1) := by decide +kernel
theorem dX12_statementTold_5 : decode cX12_statementTold 5 = .ok (.aload_n 0, 1) := by decide +kernel
theorem dX12_statementTold_6 : decode cX12_statementTold 6 = .ok (.getfield 370, 3) := by decide +kernel
theorem dX12_statementTold_9 : decode cX12_statementTold 9 = .ok (.bipush 60, 2) := by decide +kernel
theorem dX12_statementTold_11 : decode cX12_statementTold 11 = .ok (.if_icmp .ne 10, 3) := by decide +kernel
theorem dX12_statementTold_14 : decode cX12_statementTold 14 = .ok (.aload_n 0, 1) := by decide +kernel
theorem dX12_statementTold_15 : decode cX12_statementTold 15 = .ok (.iconst 5, 1) := by decide +kernel
theorem dX12_statementTold_16 : decode cX12_statementTold 16 = .ok (.iload_n 1, 1) := by decide +kernel
theorem dX12_statementTold_17 : decode cX12_statementTold 17 = .ok (.invokevirtual 294, 3) := by decide +kernel
theorem dX12_statementTold_20 : decode cX12_statementTold 20 = .ok (.return_, 1) := by decide +kernel
theorem dX12_statementTold_21 : decode cX12_statementTold 21 = .ok (.aload_n 0, 1) := by decide +kernel
theorem dX12_statementTold_22 : decode cX12_statementTold 22 = .ok (.aload_n 0, 1) := by decide +kernel
theorem dX12_statementTold_23 : decode cX12_statementTold 23 = .ok (.getfield 30, 3) := by decide +kernel
theorem dX12_statementTold_26 : decode cX12_statementTold 26 = .ok (.invokevirtual 291, 3) := by decide +kernel
theorem dX12_statementTold_29 : decode cX12_statementTold 29 = .ok (.ifCond .eq 11, 3) := by decide +kernel
theorem dX12_statementTold_32 : decode cX12_statementTold 32 = .ok (.aload_n 0, 1) := by decide +kernel
theorem dX12_statementTold_33 : decode cX12_statementTold 33 = .ok (.iload_n 1, 1) := by decide +kernel
theorem dX12_statementTold_34 : decode cX12_statementTold 34 = .ok (.invokevirtual 373, 3) := by decide +kernel
theorem dX12_statementTold_37 : decode cX12_statementTold 37 = .ok (.goto 129, 3) := by decide +kernel
theorem dX12_statementTold_40 : decode cX12_statementTold 40 = .ok (.aload_n 0, 1) := by decide +kernel
theorem dX12_statementTold_41 : decode cX12_statementTold 41 = .ok (.aload_n 0, 1) := by decide +kernel
theorem dX12_statementTold_42 : decode cX12_statementTold 42 = .ok (.getfield 36, 3) := by decide +kernel
theorem dX12_statementTold_45 : decode cX12_statementTold 45 = .ok (.invokevirtual 291, 3) := by decide +kernel
theorem dX12_statementTold_48 : decode cX12_statementTold 48 = .ok (.ifCond .eq 11, 3) := by decide +kernel
theorem dX12_statementTold_51 : decode cX12_statementTold 51 = .ok (.aload_n 0, 1) := by decide +kernel
theorem dX12_statementTold_52 : decode cX12_statementTold 52 = .ok (.iload_n 1, 1) := by decide +kernel
theorem dX12_statementTold_53 : decode cX12_statementTold 53 = .ok (.invokevirtual 376, 3) := by decide +kernel
theorem dX12_statementTold_56 : decode cX12_statementTold 56 = .ok (.goto 110, 3) := by decide +kernel
theorem dX12_statementTold_59 : decode cX12_statementTold 59 = .ok (.aload_n 0, 1) := by decide +kernel
theorem dX12_statementTold_60 : decode cX12_statementTold 60 = .ok (.aload_n 0, 1) := by decide +kernel
theorem dX12_statementTold_61 : decode cX12_statementTold 61 = .ok (.getfield 48, 3) := by decide +kernel
theorem dX12_statementTold_64 : decode cX12_statementTold 64 = .ok (.invokevirtual 291, 3) := by decide +kernel
theorem dX12_statementTold_67 : decode cX12_statementTold 67 = .ok (.ifCond .eq 11, 3) := by decide +kernel
theorem dX12_statementTold_70 : decode cX12_statementTold 70 = .ok (.aload_n 0, 1) := by decide +kernel
theorem dX12_statementTold_71 : decode cX12_statementTold 71 = .ok (.iload_n 1, 1) := by decide +kernel
theorem dX12_statementTold_72 : decode cX12_statementTold 72 = .ok (.invokevirtual 379, 3) := by decide +kernel
theorem dX12_statementTold_75 : decode cX12_statementTold 75 = .ok (.goto 91, 3) := by decide +kernel
theorem dX12_statementTold_78 : decode cX12_statementTold 78 = .ok (.aload_n 0, 1) := by decide +kernel
theorem dX12_statementTold_79 : decode cX12_statementTold 79 = .ok (.aload_n 0, 1) := by decide +kernel
theorem dX12_statementTold_80 : decode cX12_statementTold 80 = .ok (.getfield 57, 3) := by decide +kernel
theorem dX12_statementTold_83 : decode cX12_statementTold 83 = .ok (.invokevirtual 291, 3) := by decide +kernel
theorem dX12_statementTold_86 : decode cX12_statementTold 86 = .ok (.ifCond .eq 12, 3) := by decide +kernel
theorem dX12_statementTold_89 : decode cX12_statementTold 89 = .ok (.aload_n 0, 1) := by decide +kernel
theorem dX12_statementTold_90 : decode cX12_statementTold 90 = .ok (.iconst 0, 1) := by decide +kernel
theorem dX12_statementTold_91 : decode cX12_statementTold 91 = .ok (.iload_n 1, 1) := by decide +kernel
theorem dX12_statementTold_92 : decode cX12_statementTold 92 = .ok (.invokevirtual 382, 3) := by decide +kernel
theorem dX12_statementTold_95 : decode cX12_statementTold 95 = .ok (.goto 71, 3) := by decide +kernel
theorem dX12_statementTold_98 : decode cX12_statementTold 98 = .ok (.aload_n 0, 1) := by decide +kernel
theorem dX12_statementTold_99 : decode cX12_statementTold 99 = .ok (.aload_n 0, 1) := by decide +kernel
theorem dX12_statementTold_100 : decode cX12_statementTold 100 = .ok (.getfield 60, 3) := by decide +kernel
theorem dX12_statementTold_103 : decode cX12_statementTold 103 = .ok (.invokevirtual 291, 3) := by decide +kernel
theorem dX12_statementTold_106 : decode cX12_statementTold 106 = .ok (.ifCond .eq 12, 3) := by decide +kernel
theorem dX12_statementTold_109 : decode cX12_statementTold 109 = .ok (.aload_n 0, 1) := by decide +kernel
theorem dX12_statementTold_110 : decode cX12_statementTold 110 = .ok (.iconst 1, 1) := by decide +kernel
theorem dX12_statementTold_111 : decode cX12_statementTold 111 = .ok (.iload_n 1, 1) := by decide +kernel
theorem dX12_statementTold_112 : decode cX12_statementTold 112 = .ok (.invokevirtual 382, 3) := by decide +kernel
theorem dX12_statementTold_115 : decode cX12_statementTold 115 = .ok (.goto 51, 3) := by decide +kernel
theorem dX12_statementTold_118 : decode cX12_statementTold 118 = .ok (.aload_n 0, 1) := by decide +kernel
theorem dX12_statementTold_119 : decode cX12_statementTold 119 = .ok (.aload_n 0, 1) := by decide +kernel
theorem dX12_statementTold_120 : decode cX12_statementTold 120 = .ok (.getfield 63, 3) := by decide +kernel
theorem dX12_statementTold_123 : decode cX12_statementTold 123 = .ok (.invokevirtual 291, 3) := by decide +kernel
theorem dX12_statementTold_126 : decode cX12_statementTold 126 = .ok (.ifCond .eq 19, 3) := by decide +kernel
theorem dX12_statementTold_129 : decode cX12_statementTold 129 = .ok (.aload_n 0, 1) := by decide +kernel
theorem dX12_statementTold_130 : decode cX12_statementTold 130 = .ok (.getfield 127, 3) := by decide +kernel
theorem dX12_statementTold_133 : decode cX12_statementTold 133 = .ok (.iconst 0, 1) := by decide +kernel
theorem dX12_statementTold_134 : decode cX12_statementTold 134 = .ok (.aload_n 0, 1) := by decide +kernel
theorem dX12_statementTold_135 : decode cX12_statementTold 135 = .ok (.iconst 1, 1) := by decide +kernel
theorem dX12_statementTold_136 : decode cX12_statementTold 136 = .ok (.bipush 100, 2) := by decide +kernel
theorem dX12_statementTold_138 : decode cX12_statementTold 138 = .ok (.invokevirtual 334, 3) := by decide +kernel
theorem dX12_statementTold_141 : decode cX12_statementTold 141 = .ok (.iastore, 1) := by decide +kernel
theorem dX12_statementTold_142 : decode cX12_statementTold 142 = .ok (.goto 24, 3) := by decide +kernel
theorem dX12_statementTold_145 : decode cX12_statementTold 145 = .ok (.aload_n 0, 1) := by decide +kernel
theorem dX12_statementTold_146 : decode cX12_statementTold 146 = .ok (.aload_n 0, 1) := by decide +kernel
theorem dX12_statementTold_147 : decode cX12_statementTold 147 = .ok (.getfield 66, 3) := by decide +kernel
theorem dX12_statementTold_150 : decode cX12_statementTold 150 = .ok (.invokevirtual 330, 3) := by decide +kernel
theorem dX12_statementTold_153 : decode cX12_statementTold 153 = .ok (.aload_n 0, 1) := by decide +kernel
theorem dX12_statementTold_154 : decode cX12_statementTold 154 = .ok (.getfield 127, 3) := by decide +kernel
theorem dX12_statementTold_157 : decode cX12_statementTold 157 = .ok (.iconst 1, 1) := by decide +kernel
theorem dX12_statementTold_158 : decode cX12_statementTold 158 = .ok (.aload_n 0, 1) := by decide +kernel
theorem dX12_statementTold_159 : decode cX12_statementTold 159 = .ok (.iconst 0, 1) := by decide +kernel
theorem dX12_statementTold_160 : decode cX12_statementTold 160 = .ok (.bipush 100, 2) := by decide +kernel
theorem dX12_statementTold_162 : decode cX12_statementTold 162 = .ok (.invokevirtual 334, 3) := by decide +kernel
theorem dX12_statementTold_165 : decode cX12_statementTold 165 = .ok (.iastore, 1) := by decide +kernel
theorem dX12_statementTold_166 : decode cX12_statementTold 166 = .ok (.aload_n 0, 1) := by decide +kernel
theorem dX12_statementTold_167 : decode cX12_statementTold 167 = .ok (.bipush 59, 2) := by decide +kernel
theorem dX12_statementTold_169 : decode cX12_statementTold 169 = .ok (.invokevirtual 338, 3) := by decide +kernel
theorem dX12_statementTold_172 : decode cX12_statementTold 172 = .ok (.aload_n 0, 1) := by decide +kernel
theorem dX12_statementTold_173 : decode cX12_statementTold 173 = .ok (.dup, 1) := by decide +kernel
theorem dX12_statementTold_174 : decode cX12_statementTold 174 = .ok (.getfield 370, 3) := by decide +kernel
theorem dX12_statementTold_177 : decode cX12_statementTold 177 = .ok (.iconst 1, 1) := by decide +kernel
theorem dX12_statementTold_178 : decode cX12_statementTold 178 = .ok (.iadd, 1) := by decide +kernel
theorem dX12_statementTold_179 : decode cX12_statementTold 179 = .ok (.putfield 370, 3) := by decide +kernel
theorem dX12_statementTold_182 : decode cX12_statementTold 182 = .ok (.return_, 1) := by decide +kernel
def f_X12_statementTold_166 (S : Hp) : Option Hp :=
  ob (f_X12_asksSign (59 : Int32) S) (fun S1 => le1 (ho_sI S1 0 51 ((S1.1 0 51) + (1 : Int32))) (fun S2 => some S2))
set_option maxHeartbeats 4000000 in
set_option maxRecDepth 100000 in
theorem w_X12_statementTold_166 {p : Program} {l : Launch} {e : Env} {s : State} {m : MethodId} {args : Array Value} {below : List Frame} {meth : Method} {c : Code} {E : Ev} {S0 : Hp} {r : Hp} (C : ho_I p s m args meth c RX12 cX12_statementTold 2 none) :
    ∀ (S : Hp), f_X12_statementTold_166 S = some r → ho_G p l e s m args below meth c yM E S0 8 2 (none, r) 166 [(0, .ref (E.2.1 0))] [] S := by
  intro S h H locs ls hR hl
  unfold f_X12_statementTold_166 at h
  refine lv_aload_n C.1 C.2.1 dX12_statementTold_166 rfl (lv_at hl 0 rfl) ?_
  refine lv_bipush (v := (59 : Int32)) C.1 C.2.1 dX12_statementTold_167 (by decide) ?_
  obtain ⟨S1, h1, h⟩ := ob_ok h
  refine hr_Vv (S' := S1) (As := [.int (59 : Int32)]) (rest := []) C cf12 (c_X12_asksSign l E (59 : Int32) _ _ h1) yv_X12_asksSign lk_RX12_338 rfl aM_0 rfl rfl hl.1 (Nat.le_of_ble_eq_true rfl) (by decide) (by decide) hR (ho_A hR) dX12_statementTold_169 (fun H locs hR => ?_)
  refine lv_aload_n C.1 C.2.1 dX12_statementTold_172 rfl (lv_at hl 0 rfl) ?_
  refine lv_dup C.1 C.2.1 dX12_statementTold_173 rfl ?_
  refine ho_getI C cf12 fM_370 hR aM_0 dX12_statementTold_174 ?_
  refine lv_iconst (v := (1 : Int32)) C.1 C.2.1 dX12_statementTold_177 (by decide) ?_
  refine lv_iadd C.1 C.2.1 dX12_statementTold_178 ?_
  obtain ⟨S2, e2, h⟩ := le1_ok h
  refine hr_putI C cf12 fM_370 hR aM_0 e2 dX12_statementTold_179 (fun H locs hR => ?_)
  exact ho_vret C hR h dX12_statementTold_182
def f_X12_statementTold (S : Hp) : Option Hp :=
  le1 (S.1 0 2) (fun v1 => if (S.1 0 51) = (60 : Int32) then ob (f_X12_fail (5 : Int32) v1 S) (fun S18 => some S18) else ob2 (f_X12_takes 14 6 S) (fun r2 S2 => if r2 = 0 then ob2 (f_X12_takes 16 5 S2) (fun r3 S3 => if r3 = 0 then ob2 (f_X12_takes 20 5 S3) (fun r4 S4 => if r4 = 0 then ob2 (f_X12_takes 23 4 S4) (fun r5 S5 => if r5 = 0 then ob2 (f_X12_takes 24 5 S5) (fun r6 S6 => if r6 = 0 then ob2 (f_X12_takes 25 6 S6) (fun r7 S7 => if r7 = 0 then ob (f_X12_asks 26 4 S7) (fun S8 => ob2 (f_X12_number (0 : Int32) (100 : Int32) S8) (fun r9 S9 => stI S9 47 4 (1 : Int32) r9 (fun S10 => f_X12_statementTold_166 S10))) else ob2 (f_X12_number (1 : Int32) (100 : Int32) S7) (fun r11 S11 => stI S11 47 4 (0 : Int32) r11 (fun S12 => f_X12_statementTold_166 S12))) else ob (f_X12_codesTold (1 : Int32) v1 S6) (fun S13 => f_X12_statementTold_166 S13)) else ob (f_X12_codesTold (0 : Int32) v1 S5) (fun S14 => f_X12_statementTold_166 S14)) else ob (f_X12_watcherTold v1 S4) (fun S15 => f_X12_statementTold_166 S15)) else ob (f_X12_trickTold v1 S3) (fun S16 => f_X12_statementTold_166 S16)) else ob (f_X12_provinceTold v1 S2) (fun S17 => f_X12_statementTold_166 S17)))
set_option maxHeartbeats 4000000 in
set_option maxRecDepth 100000 in
theorem c_X12_statementTold (l : Launch) (E : Ev) (S : Hp) (r : Hp) (h : f_X12_statementTold S = some r) : ho_M l yM E yX12_statementTold cX12_statementTold 2 none 8 [.ref (E.2.1 0)] S (none, r) := by
  refine ho_in (by decide) (Nat.le_of_ble_eq_true rfl) ?_
  intro p e s m args below meth c C hR ls hl
  have C : ho_I p s m args meth c RX12 cX12_statementTold 2 none := C
  have hl : lv_has ls 2 [(0, .ref (E.2.1 0))] := hl
  unfold f_X12_statementTold at h
  refine lv_aload_n C.1 C.2.1 dX12_statementTold_0 rfl (lv_at hl 0 rfl) ?_
  refine ho_getI C cf12 fM_270 hR aM_0 dX12_statementTold_1 ?_
  refine lv_topi (fun v1 e1 => ?_)
  replace h := le1_at e1 h
  refine lv_istore_n (lv' := [(1, .int v1), (0, .ref (E.2.1 0))]) C.1 C.2.1 dX12_statementTold_4 rfl hl (by decide) rfl (fun ls hl => ?_)
  refine lv_aload_n C.1 C.2.1 dX12_statementTold_5 rfl (lv_at hl 1 rfl) ?_
  refine ho_getI C cf12 fM_370 hR aM_0 dX12_statementTold_6 ?_
  refine lv_bipush (v := (60 : Int32)) C.1 C.2.1 dX12_statementTold_9 (by decide) ?_
  refine lv_icmp_ne (tgt := 21) C.1 C.2.1 dX12_statementTold_11 (by decide) (fun hc => ?_) (fun hc => ?_)
  · replace h := if_f h hc
    refine lv_aload_n C.1 C.2.1 dX12_statementTold_21 rfl (lv_at hl 1 rfl) ?_
    refine lv_aload_n C.1 C.2.1 dX12_statementTold_22 rfl (lv_at hl 1 rfl) ?_
    refine ho_getR (a' := 14) C cf12 fM_30 hR aM_0 rfl dX12_statementTold_23 ?_
    obtain ⟨r2, S2, h2, h⟩ := ob2_ok h
    refine hr_Vi (v := r2) (S' := S2) (As := [.ref (E.2.1 14)]) (rest := []) C cf12 (c_X12_takes l E 14 6 aM_14 _ _ h2) yv_X12_takes lk_RX12_291 rfl aM_0 rfl rfl hl.1 (Nat.le_of_ble_eq_true rfl) (by decide) (by decide) hR (ho_A hR) dX12_statementTold_26 (fun H locs hR => ?_)
    refine lv_if_eq (tgt := 40) C.1 C.2.1 dX12_statementTold_29 (by decide) (fun hc => ?_) (fun hc => ?_)
    · replace h := if_t h hc
      refine lv_aload_n C.1 C.2.1 dX12_statementTold_40 rfl (lv_at hl 1 rfl) ?_
      refine lv_aload_n C.1 C.2.1 dX12_statementTold_41 rfl (lv_at hl 1 rfl) ?_
      refine ho_getR (a' := 16) C cf12 fM_36 hR aM_0 rfl dX12_statementTold_42 ?_
      obtain ⟨r3, S3, h3, h⟩ := ob2_ok h
      refine hr_Vi (v := r3) (S' := S3) (As := [.ref (E.2.1 16)]) (rest := []) C cf12 (c_X12_takes l E 16 5 aM_16 _ _ h3) yv_X12_takes lk_RX12_291 rfl aM_0 rfl rfl hl.1 (Nat.le_of_ble_eq_true rfl) (by decide) (by decide) hR (ho_A hR) dX12_statementTold_45 (fun H locs hR => ?_)
      refine lv_if_eq (tgt := 59) C.1 C.2.1 dX12_statementTold_48 (by decide) (fun hc => ?_) (fun hc => ?_)
      · replace h := if_t h hc
        refine lv_aload_n C.1 C.2.1 dX12_statementTold_59 rfl (lv_at hl 1 rfl) ?_
        refine lv_aload_n C.1 C.2.1 dX12_statementTold_60 rfl (lv_at hl 1 rfl) ?_
        refine ho_getR (a' := 20) C cf12 fM_48 hR aM_0 rfl dX12_statementTold_61 ?_
        obtain ⟨r4, S4, h4, h⟩ := ob2_ok h
        refine hr_Vi (v := r4) (S' := S4) (As := [.ref (E.2.1 20)]) (rest := []) C cf12 (c_X12_takes l E 20 5 aM_20 _ _ h4) yv_X12_takes lk_RX12_291 rfl aM_0 rfl rfl hl.1 (Nat.le_of_ble_eq_true rfl) (by decide) (by decide) hR (ho_A hR) dX12_statementTold_64 (fun H locs hR => ?_)
        refine lv_if_eq (tgt := 78) C.1 C.2.1 dX12_statementTold_67 (by decide) (fun hc => ?_) (fun hc => ?_)
        · replace h := if_t h hc
          refine lv_aload_n C.1 C.2.1 dX12_statementTold_78 rfl (lv_at hl 1 rfl) ?_
          refine lv_aload_n C.1 C.2.1 dX12_statementTold_79 rfl (lv_at hl 1 rfl) ?_
          refine ho_getR (a' := 23) C cf12 fM_57 hR aM_0 rfl dX12_statementTold_80 ?_
          obtain ⟨r5, S5, h5, h⟩ := ob2_ok h
          refine hr_Vi (v := r5) (S' := S5) (As := [.ref (E.2.1 23)]) (rest := []) C cf12 (c_X12_takes l E 23 4 aM_23 _ _ h5) yv_X12_takes lk_RX12_291 rfl aM_0 rfl rfl hl.1 (Nat.le_of_ble_eq_true rfl) (by decide) (by decide) hR (ho_A hR) dX12_statementTold_83 (fun H locs hR => ?_)
          refine lv_if_eq (tgt := 98) C.1 C.2.1 dX12_statementTold_86 (by decide) (fun hc => ?_) (fun hc => ?_)
          · replace h := if_t h hc
            refine lv_aload_n C.1 C.2.1 dX12_statementTold_98 rfl (lv_at hl 1 rfl) ?_
            refine lv_aload_n C.1 C.2.1 dX12_statementTold_99 rfl (lv_at hl 1 rfl) ?_
            refine ho_getR (a' := 24) C cf12 fM_60 hR aM_0 rfl dX12_statementTold_100 ?_
            obtain ⟨r6, S6, h6, h⟩ := ob2_ok h
            refine hr_Vi (v := r6) (S' := S6) (As := [.ref (E.2.1 24)]) (rest := []) C cf12 (c_X12_takes l E 24 5 aM_24 _ _ h6) yv_X12_takes lk_RX12_291 rfl aM_0 rfl rfl hl.1 (Nat.le_of_ble_eq_true rfl) (by decide) (by decide) hR (ho_A hR) dX12_statementTold_103 (fun H locs hR => ?_)
            refine lv_if_eq (tgt := 118) C.1 C.2.1 dX12_statementTold_106 (by decide) (fun hc => ?_) (fun hc => ?_)
            · replace h := if_t h hc
              refine lv_aload_n C.1 C.2.1 dX12_statementTold_118 rfl (lv_at hl 1 rfl) ?_
              refine lv_aload_n C.1 C.2.1 dX12_statementTold_119 rfl (lv_at hl 1 rfl) ?_
              refine ho_getR (a' := 25) C cf12 fM_63 hR aM_0 rfl dX12_statementTold_120 ?_
              obtain ⟨r7, S7, h7, h⟩ := ob2_ok h
              refine hr_Vi (v := r7) (S' := S7) (As := [.ref (E.2.1 25)]) (rest := []) C cf12 (c_X12_takes l E 25 6 aM_25 _ _ h7) yv_X12_takes lk_RX12_291 rfl aM_0 rfl rfl hl.1 (Nat.le_of_ble_eq_true rfl) (by decide) (by decide) hR (ho_A hR) dX12_statementTold_123 (fun H locs hR => ?_)
              refine lv_if_eq (tgt := 145) C.1 C.2.1 dX12_statementTold_126 (by decide) (fun hc => ?_) (fun hc => ?_)
              · replace h := if_t h hc
                refine lv_aload_n C.1 C.2.1 dX12_statementTold_145 rfl (lv_at hl 1 rfl) ?_
                refine lv_aload_n C.1 C.2.1 dX12_statementTold_146 rfl (lv_at hl 1 rfl) ?_
                refine ho_getR (a' := 26) C cf12 fM_66 hR aM_0 rfl dX12_statementTold_147 ?_
                obtain ⟨S8, h8, h⟩ := ob_ok h
                refine hr_Vv (S' := S8) (As := [.ref (E.2.1 26)]) (rest := []) C cf12 (c_X12_asks l E 26 4 aM_26 _ _ h8) yv_X12_asks lk_RX12_330 rfl aM_0 rfl rfl hl.1 (Nat.le_of_ble_eq_true rfl) (by decide) (by decide) hR (ho_A hR) dX12_statementTold_150 (fun H locs hR => ?_)
                refine lv_aload_n C.1 C.2.1 dX12_statementTold_153 rfl (lv_at hl 1 rfl) ?_
                refine ho_getR (a' := 47) C cf12 fM_127 hR aM_0 rfl dX12_statementTold_154 ?_
                refine lv_iconst (v := (1 : Int32)) C.1 C.2.1 dX12_statementTold_157 (by decide) ?_
                refine lv_aload_n C.1 C.2.1 dX12_statementTold_158 rfl (lv_at hl 1 rfl) ?_
                refine lv_iconst (v := (0 : Int32)) C.1 C.2.1 dX12_statementTold_159 (by decide) ?_
                refine lv_bipush (v := (100 : Int32)) C.1 C.2.1 dX12_statementTold_160 (by decide) ?_
                obtain ⟨r9, S9, h9, h⟩ := ob2_ok h
                refine hr_Vi (v := r9) (S' := S9) (As := [.int (0 : Int32), .int (100 : Int32)]) (rest := [.int (1 : Int32), .ref (E.2.1 47)]) C cf12 (c_X12_number l E (0 : Int32) (100 : Int32) _ _ h9) yv_X12_number lk_RX12_334 rfl aM_0 rfl rfl hl.1 (Nat.le_of_ble_eq_true rfl) (by decide) (by decide) hR (ho_A hR) dX12_statementTold_162 (fun H locs hR => ?_)
                obtain ⟨S10, e10, hi10, h⟩ := stI_ok h
                refine hr_ist C hR aM_47 hi10 e10 dX12_statementTold_165 (fun H locs hR => ?_)
                exact w_X12_statementTold_166 C S10 h _ _ _ hR (lv_sub hl [1] rfl)
              · replace h := if_f h hc
                refine lv_aload_n C.1 C.2.1 dX12_statementTold_129 rfl (lv_at hl 1 rfl) ?_
                refine ho_getR (a' := 47) C cf12 fM_127 hR aM_0 rfl dX12_statementTold_130 ?_
                refine lv_iconst (v := (0 : Int32)) C.1 C.2.1 dX12_statementTold_133 (by decide) ?_
                refine lv_aload_n C.1 C.2.1 dX12_statementTold_134 rfl (lv_at hl 1 rfl) ?_
                refine lv_iconst (v := (1 : Int32)) C.1 C.2.1 dX12_statementTold_135 (by decide) ?_
                refine lv_bipush (v := (100 : Int32)) C.1 C.2.1 dX12_statementTold_136 (by decide) ?_
                obtain ⟨r11, S11, h11, h⟩ := ob2_ok h
                refine hr_Vi (v := r11) (S' := S11) (As := [.int (1 : Int32), .int (100 : Int32)]) (rest := [.int (0 : Int32), .ref (E.2.1 47)]) C cf12 (c_X12_number l E (1 : Int32) (100 : Int32) _ _ h11) yv_X12_number lk_RX12_334 rfl aM_0 rfl rfl hl.1 (Nat.le_of_ble_eq_true rfl) (by decide) (by decide) hR (ho_A hR) dX12_statementTold_138 (fun H locs hR => ?_)
                obtain ⟨S12, e12, hi12, h⟩ := stI_ok h
                refine hr_ist C hR aM_47 hi12 e12 dX12_statementTold_141 (fun H locs hR => ?_)
                refine lv_goto (tgt := 166) C.1 C.2.1 dX12_statementTold_142 (by decide) ?_
                exact w_X12_statementTold_166 C S12 h _ _ _ hR (lv_sub hl [1] rfl)
            · replace h := if_f h hc
              refine lv_aload_n C.1 C.2.1 dX12_statementTold_109 rfl (lv_at hl 1 rfl) ?_
              refine lv_iconst (v := (1 : Int32)) C.1 C.2.1 dX12_statementTold_110 (by decide) ?_
              refine lv_iload_n C.1 C.2.1 dX12_statementTold_111 rfl (lv_at hl 0 rfl) ?_
              obtain ⟨S13, h13, h⟩ := ob_ok h
              refine hr_Vv (S' := S13) (As := [.int (1 : Int32), .int v1]) (rest := []) C cf12 (c_X12_codesTold l E (1 : Int32) v1 _ _ h13) yv_X12_codesTold lk_RX12_382 rfl aM_0 rfl rfl hl.1 (Nat.le_of_ble_eq_true rfl) (by decide) (by decide) hR (ho_A hR) dX12_statementTold_112 (fun H locs hR => ?_)
              refine lv_goto (tgt := 166) C.1 C.2.1 dX12_statementTold_115 (by decide) ?_
              exact w_X12_statementTold_166 C S13 h _ _ _ hR (lv_sub hl [1] rfl)
          · replace h := if_f h hc
            refine lv_aload_n C.1 C.2.1 dX12_statementTold_89 rfl (lv_at hl 1 rfl) ?_
            refine lv_iconst (v := (0 : Int32)) C.1 C.2.1 dX12_statementTold_90 (by decide) ?_
            refine lv_iload_n C.1 C.2.1 dX12_statementTold_91 rfl (lv_at hl 0 rfl) ?_
            obtain ⟨S14, h14, h⟩ := ob_ok h
            refine hr_Vv (S' := S14) (As := [.int (0 : Int32), .int v1]) (rest := []) C cf12 (c_X12_codesTold l E (0 : Int32) v1 _ _ h14) yv_X12_codesTold lk_RX12_382 rfl aM_0 rfl rfl hl.1 (Nat.le_of_ble_eq_true rfl) (by decide) (by decide) hR (ho_A hR) dX12_statementTold_92 (fun H locs hR => ?_)
            refine lv_goto (tgt := 166) C.1 C.2.1 dX12_statementTold_95 (by decide) ?_
            exact w_X12_statementTold_166 C S14 h _ _ _ hR (lv_sub hl [1] rfl)
        · replace h := if_f h hc
          refine lv_aload_n C.1 C.2.1 dX12_statementTold_70 rfl (lv_at hl 1 rfl) ?_
          refine lv_iload_n C.1 C.2.1 dX12_statementTold_71 rfl (lv_at hl 0 rfl) ?_
          obtain ⟨S15, h15, h⟩ := ob_ok h
          refine hr_Vv (S' := S15) (As := [.int v1]) (rest := []) C cf12 (c_X12_watcherTold l E v1 _ _ h15) yv_X12_watcherTold lk_RX12_379 rfl aM_0 rfl rfl hl.1 (Nat.le_of_ble_eq_true rfl) (by decide) (by decide) hR (ho_A hR) dX12_statementTold_72 (fun H locs hR => ?_)
          refine lv_goto (tgt := 166) C.1 C.2.1 dX12_statementTold_75 (by decide) ?_
          exact w_X12_statementTold_166 C S15 h _ _ _ hR (lv_sub hl [1] rfl)
      · replace h := if_f h hc
        refine lv_aload_n C.1 C.2.1 dX12_statementTold_51 rfl (lv_at hl 1 rfl) ?_
        refine lv_iload_n C.1 C.2.1 dX12_statementTold_52 rfl (lv_at hl 0 rfl) ?_
        obtain ⟨S16, h16, h⟩ := ob_ok h
        refine hr_Vv (S' := S16) (As := [.int v1]) (rest := []) C cf12 (c_X12_trickTold l E v1 _ _ h16) yv_X12_trickTold lk_RX12_376 rfl aM_0 rfl rfl hl.1 (Nat.le_of_ble_eq_true rfl) (by decide) (by decide) hR (ho_A hR) dX12_statementTold_53 (fun H locs hR => ?_)
        refine lv_goto (tgt := 166) C.1 C.2.1 dX12_statementTold_56 (by decide) ?_
        exact w_X12_statementTold_166 C S16 h _ _ _ hR (lv_sub hl [1] rfl)
    · replace h := if_f h hc
      refine lv_aload_n C.1 C.2.1 dX12_statementTold_32 rfl (lv_at hl 1 rfl) ?_
      refine lv_iload_n C.1 C.2.1 dX12_statementTold_33 rfl (lv_at hl 0 rfl) ?_
      obtain ⟨S17, h17, h⟩ := ob_ok h
      refine hr_Vv (S' := S17) (As := [.int v1]) (rest := []) C cf12 (c_X12_provinceTold l E v1 _ _ h17) yv_X12_provinceTold lk_RX12_373 rfl aM_0 rfl rfl hl.1 (Nat.le_of_ble_eq_true rfl) (by decide) (by decide) hR (ho_A hR) dX12_statementTold_34 (fun H locs hR => ?_)
      refine lv_goto (tgt := 166) C.1 C.2.1 dX12_statementTold_37 (by decide) ?_
      exact w_X12_statementTold_166 C S17 h _ _ _ hR (lv_sub hl [1] rfl)
  · replace h := if_t h hc
    refine lv_aload_n C.1 C.2.1 dX12_statementTold_14 rfl (lv_at hl 1 rfl) ?_
    refine lv_iconst (v := (5 : Int32)) C.1 C.2.1 dX12_statementTold_15 (by decide) ?_
    refine lv_iload_n C.1 C.2.1 dX12_statementTold_16 rfl (lv_at hl 0 rfl) ?_
    obtain ⟨S18, h18, h⟩ := ob_ok h
    refine hr_Vv (S' := S18) (As := [.int (5 : Int32), .int v1]) (rest := []) C cf12 (c_X12_fail l E (5 : Int32) v1 _ _ h18) yv_X12_fail lk_RX12_294 rfl aM_0 rfl rfl hl.1 (Nat.le_of_ble_eq_true rfl) (by decide) (by decide) hR (ho_A hR) dX12_statementTold_17 (fun H locs hR => ?_)
    exact ho_vret C hR h dX12_statementTold_20
