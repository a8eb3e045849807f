theorem dX0_forget_0 : decode cX0_forget 0 = .ok (.aload_n 0, 1) := by decide +kernel
theorem dX0_forget_1 : decode cX0_forget 1 = .ok (.iconst (-1), 1) := by decide +kernel
theorem dX0_forget_2 : decode cX0_forget 2 = .ok (.putfield 55, 3) := by decide +kernel
theorem dX0_forget_5 : decode cX0_forget 5 = .ok (.aload_n 0, 1) := by decide +kernel
theorem dX0_forget_6 : decode cX0_forget 6 = .ok (.iconst 0, 1) := by decide +kernel
theorem dX0_forget_7 : decode cX0_forget 7 = .ok (.putfield 59, 3) := by decide +kernel
theorem dX0_forget_10 : decode cX0_forget 10 = .ok (.return_, 1) := by decide +kernel
def f_X0_forget (S : Hp) : Option Hp :=
  le1 (ho_sI S 60 14 (-1 : Int32)) (fun S1 => le1 (ho_sI S1 60 15 (0 : Int32)) (fun S2 => some S2))
set_option maxHeartbeats 4000000 in
set_option maxRecDepth 100000 in
theorem c_X0_forget (l : Launch) (E : Ev) (S : Hp) (r : Hp) (h : f_X0_forget S = some r) : ho_M l yH E yX0_forget cX0_forget 1 none 0 [.ref (E.2.1 60)] S (none, r) := by
  refine ho_in (by decide) (Nat.le_of_ble_eq_true rfl) ?_
  intro p e s m args below meth c C hR ls hl
  have C : ho_I p s m args meth c RX0 cX0_forget 1 none := C
  have hl : lv_has ls 1 [(0, .ref (E.2.1 60))] := hl
  unfold f_X0_forget at h
  refine lv_aload_n C.1 C.2.1 dX0_forget_0 rfl (lv_at hl 0 rfl) ?_
  refine lv_iconst (v := (-1 : Int32)) C.1 C.2.1 dX0_forget_1 (by decide) ?_
  obtain ⟨S1, e1, h⟩ := le1_ok h
  refine hr_putI C cf0 fH_RX0_55 hR aH_60 e1 dX0_forget_2 (fun H locs hR => ?_)
  refine lv_aload_n C.1 C.2.1 dX0_forget_5 rfl (lv_at hl 0 rfl) ?_
  refine lv_iconst (v := (0 : Int32)) C.1 C.2.1 dX0_forget_6 (by decide) ?_
  obtain ⟨S2, e2, h⟩ := le1_ok h
  refine hr_putZ C cf0 fH_RX0_59 hR aH_60 (Or.inl rfl) e2 dX0_forget_7 (fun H locs hR => ?_)
  exact ho_vret C hR h dX0_forget_10
theorem dX9_copy_0 : decode cX9_copy 0 = .ok (.aload_n 0, 1) := by decide +kernel
theorem dX9_copy_1 : decode cX9_copy 1 = .ok (.aload_n 1, 1) := by decide +kernel
theorem dX9_copy_2 : decode cX9_copy 2 = .ok (.getfield 9, 3) := by decide +kernel
theorem dX9_copy_5 : decode cX9_copy 5 = .ok (.putfield 9, 3) := by decide +kernel
theorem dX9_copy_8 : decode cX9_copy 8 = .ok (.aload_n 0, 1) := by decide +kernel
theorem dX9_copy_9 : decode cX9_copy 9 = .ok (.aload_n 1, 1) := by decide +kernel
theorem dX9_copy_10 : decode cX9_copy 10 = .ok (.getfield 15, 3) := by decide +kernel
theorem dX9_copy_13 : decode cX9_copy 13 = .ok (.putfield 15, 3) := by decide +kernel
theorem dX9_copy_16 : decode cX9_copy 16 = .ok (.aload_n 0, 1) := by decide +kernel
theorem dX9_copy_17 : decode cX9_copy 17 = .ok (.aload_n 1, 1) := by decide +kernel
theorem dX9_copy_18 : decode cX9_copy 18 = .ok (.getfield 18, 3) := by decide +kernel
theorem dX9_copy_21 : decode cX9_copy 21 = .ok (.putfield 18, 3) := by decide +kernel
theorem dX9_copy_24 : decode cX9_copy 24 = .ok (.aload_n 0, 1) := by decide +kernel
theorem dX9_copy_25 : decode cX9_copy 25 = .ok (.aload_n 1, 1) := by decide +kernel
theorem dX9_copy_26 : decode cX9_copy 26 = .ok (.getfield 34, 3) := by decide +kernel
theorem dX9_copy_29 : decode cX9_copy 29 = .ok (.putfield 34, 3) := by decide +kernel
theorem dX9_copy_32 : decode cX9_copy 32 = .ok (.aload_n 1, 1) := by decide +kernel
theorem dX9_copy_33 : decode cX9_copy 33 = .ok (.getfield 21, 3) := by decide +kernel
theorem dX9_copy_36 : decode cX9_copy 36 = .ok (.iconst 0, 1) := by decide +kernel
theorem dX9_copy_37 : decode cX9_copy 37 = .ok (.aload_n 0, 1) := by decide +kernel
theorem dX9_copy_38 : decode cX9_copy 38 = .ok (.getfield 21, 3) := by decide +kernel
theorem dX9_copy_41 : decode cX9_copy 41 = .ok (.iconst 0, 1) := by decide +kernel
theorem dX9_copy_42 : decode cX9_copy 42 = .ok (.bipush 6, 2) := by decide +kernel
theorem dX9_copy_44 : decode cX9_copy 44 = .ok (.invokestatic 56, 3) := by decide +kernel
theorem dX9_copy_47 : decode cX9_copy 47 = .ok (.aload_n 1, 1) := by decide +kernel
theorem dX9_copy_48 : decode cX9_copy 48 = .ok (.getfield 25, 3) := by decide +kernel
theorem dX9_copy_51 : decode cX9_copy 51 = .ok (.iconst 0, 1) := by decide +kernel
theorem dX9_copy_52 : decode cX9_copy 52 = .ok (.aload_n 0, 1) := by decide +kernel
theorem dX9_copy_53 : decode cX9_copy 53 = .ok (.getfield 25, 3) := by decide +kernel
theorem dX9_copy_56 : decode cX9_copy 56 = .ok (.iconst 0, 1) := by decide +kernel
theorem dX9_copy_57 : decode cX9_copy 57 = .ok (.bipush 6, 2) := by decide +kernel
theorem dX9_copy_59 : decode cX9_copy 59 = .ok (.invokestatic 56, 3) := by decide +kernel
theorem dX9_copy_62 : decode cX9_copy 62 = .ok (.aload_n 1, 1) := by decide +kernel
theorem dX9_copy_63 : decode cX9_copy 63 = .ok (.getfield 28, 3) := by decide +kernel
theorem dX9_copy_66 : decode cX9_copy 66 = .ok (.iconst 0, 1) := by decide +kernel
theorem dX9_copy_67 : decode cX9_copy 67 = .ok (.aload_n 0, 1) := by decide +kernel
theorem dX9_copy_68 : decode cX9_copy 68 = .ok (.getfield 28, 3) := by decide +kernel
theorem dX9_copy_71 : decode cX9_copy 71 = .ok (.iconst 0, 1) := by decide +kernel
theorem dX9_copy_72 : decode cX9_copy 72 = .ok (.bipush 6, 2) := by decide +kernel
theorem dX9_copy_74 : decode cX9_copy 74 = .ok (.invokestatic 56, 3) := by decide +kernel
theorem dX9_copy_77 : decode cX9_copy 77 = .ok (.aload_n 1, 1) := by decide +kernel
theorem dX9_copy_78 : decode cX9_copy 78 = .ok (.getfield 31, 3) := by decide +kernel
theorem dX9_copy_81 : decode cX9_copy 81 = .ok (.iconst 0, 1) := by decide +kernel
theorem dX9_copy_82 : decode cX9_copy 82 = .ok (.aload_n 0, 1) := by decide +kernel
theorem dX9_copy_83 : decode cX9_copy 83 = .ok (.getfield 31, 3) := by decide +kernel
theorem dX9_copy_86 : decode cX9_copy 86 = .ok (.iconst 0, 1) := by decide +kernel
theorem dX9_copy_87 : decode cX9_copy 87 = .ok (.iconst 5, 1) := by decide +kernel
theorem dX9_copy_88 : decode cX9_copy 88 = .ok (.invokestatic 56, 3) := by decide +kernel
theorem dX9_copy_91 : decode cX9_copy 91 = .ok (.aload_n 1, 1) := by decide +kernel
theorem dX9_copy_92 : decode cX9_copy 92 = .ok (.getfield 37, 3) := by decide +kernel
theorem dX9_copy_95 : decode cX9_copy 95 = .ok (.iconst 0, 1) := by decide +kernel
theorem dX9_copy_96 : decode cX9_copy 96 = .ok (.aload_n 0, 1) := by decide +kernel
theorem dX9_copy_97 : decode cX9_copy 97 = .ok (.getfield 37, 3) := by decide +kernel
theorem dX9_copy_100 : decode cX9_copy 100 = .ok (.iconst 0, 1) := by decide +kernel
theorem dX9_copy_101 : decode cX9_copy 101 = .ok (.aload_n 0, 1) := by decide +kernel
theorem dX9_copy_102 : decode cX9_copy 102 = .ok (.getfield 34, 3) := by decide +kernel
theorem dX9_copy_105 : decode cX9_copy 105 = .ok (.iconst 3, 1) := by decide +kernel
theorem dX9_copy_106 : decode cX9_copy 106 = .ok (.imul, 1) := by decide +kernel
theorem dX9_copy_107 : decode cX9_copy 107 = .ok (.invokestatic 56, 3) := by decide +kernel
theorem dX9_copy_110 : decode cX9_copy 110 = .ok (.return_, 1) := by decide +kernel
def f_X9_copy (a0 : Nat) (a1 : Nat) (S : Hp) : Option Hp :=
  le1 (ho_sI S a0 0 (S.1 a1 0)) (fun S1 => le1 (ho_sI S1 a0 1 (S1.1 a1 1)) (fun S2 => le1 (ho_sI S2 a0 2 (S2.1 a1 2)) (fun S3 => le1 (ho_sI S3 a0 7 (S3.1 a1 7)) (fun S4 => cpI S4 (a1 + 1) 6 (0 : Int32) (a0 + 1) 6 (0 : Int32) (6 : Int32) (fun S5 => cpI S5 (a1 + 2) 6 (0 : Int32) (a0 + 2) 6 (0 : Int32) (6 : Int32) (fun S6 => cpI S6 (a1 + 3) 6 (0 : Int32) (a0 + 3) 6 (0 : Int32) (6 : Int32) (fun S7 => cpI S7 (a1 + 4) 5 (0 : Int32) (a0 + 4) 5 (0 : Int32) (5 : Int32) (fun S8 => cpI S8 (a1 + 5) 90 (0 : Int32) (a0 + 5) 90 (0 : Int32) ((S8.1 a0 7) * (3 : Int32)) (fun S9 => some S9)))))))))
set_option maxHeartbeats 4000000 in
set_option maxRecDepth 100000 in
theorem c_X9_copy (l : Launch) (E : Ev) (a0 : Nat) (a1 : Nat) (ha0 : a0 ∈ yH.1 ∧ yH.2.1 a0 = (1, 9)) (ha1 : a1 ∈ yH.1 ∧ yH.2.1 a1 = (1, 9)) (S : Hp) (r : Hp) (h : f_X9_copy a0 a1 S = some r) : ho_M l yH E yX9_copy cX9_copy 2 none 1 [.ref (E.2.1 a0), .ref (E.2.1 a1)] S (none, r) := by
  refine ho_in (by decide) (Nat.le_of_ble_eq_true rfl) ?_
  intro p e s m args below meth c C hR ls hl
  have C : ho_I p s m args meth c RX9 cX9_copy 2 none := C
  have hl : lv_has ls 2 [(0, .ref (E.2.1 a0)), (1, .ref (E.2.1 a1))] := hl
  unfold f_X9_copy at h
  refine lv_aload_n C.1 C.2.1 dX9_copy_0 rfl (lv_at hl 0 rfl) ?_
  refine lv_aload_n C.1 C.2.1 dX9_copy_1 rfl (lv_at hl 1 rfl) ?_
  refine ho_getI C cf9 fH_RX9_9 hR ha1 dX9_copy_2 ?_
  obtain ⟨S1, e1, h⟩ := le1_ok h
  refine hr_putI C cf9 fH_RX9_9 hR ha0 e1 dX9_copy_5 (fun H locs hR => ?_)
  refine lv_aload_n C.1 C.2.1 dX9_copy_8 rfl (lv_at hl 0 rfl) ?_
  refine lv_aload_n C.1 C.2.1 dX9_copy_9 rfl (lv_at hl 1 rfl) ?_
  refine ho_getI C cf9 fH_RX9_15 hR ha1 dX9_copy_10 ?_
  obtain ⟨S2, e2, h⟩ := le1_ok h
  refine hr_putI C cf9 fH_RX9_15 hR ha0 e2 dX9_copy_13 (fun H locs hR => ?_)
  refine lv_aload_n C.1 C.2.1 dX9_copy_16 rfl (lv_at hl 0 rfl) ?_
  refine lv_aload_n C.1 C.2.1 dX9_copy_17 rfl (lv_at hl 1 rfl) ?_
  refine ho_getI C cf9 fH_RX9_18 hR ha1 dX9_copy_18 ?_
  obtain ⟨S3, e3, h⟩ := le1_ok h
  refine hr_putI C cf9 fH_RX9_18 hR ha0 e3 dX9_copy_21 (fun H locs hR => ?_)
  refine lv_aload_n C.1 C.2.1 dX9_copy_24 rfl (lv_at hl 0 rfl) ?_
  refine lv_aload_n C.1 C.2.1 dX9_copy_25 rfl (lv_at hl 1 rfl) ?_
  refine ho_getI C cf9 fH_RX9_34 hR ha1 dX9_copy_26 ?_
  obtain ⟨S4, e4, h⟩ := le1_ok h
  refine hr_putI C cf9 fH_RX9_34 hR ha0 e4 dX9_copy_29 (fun H locs hR => ?_)
  refine lv_aload_n C.1 C.2.1 dX9_copy_32 rfl (lv_at hl 1 rfl) ?_
  refine ho_getR (a' := (a1 + 1)) C cf9 fH_RX9_21 hR ha1 (pH_9_3 ha1.2) dX9_copy_33 ?_
  refine lv_iconst (v := (0 : Int32)) C.1 C.2.1 dX9_copy_36 (by decide) ?_
  refine lv_aload_n C.1 C.2.1 dX9_copy_37 rfl (lv_at hl 0 rfl) ?_
  refine ho_getR (a' := (a0 + 1)) C cf9 fH_RX9_21 hR ha0 (pH_9_3 ha0.2) dX9_copy_38 ?_
  refine lv_iconst (v := (0 : Int32)) C.1 C.2.1 dX9_copy_41 (by decide) ?_
  refine lv_bipush (v := (6 : Int32)) C.1 C.2.1 dX9_copy_42 (by decide) ?_
  obtain ⟨S5, e5, hh5, h⟩ := cpI_ok h
  refine hr_cpy C ac_RX9_56 hR (rH_9_1 ha1) (rH_9_1 ha0) hh5 e5 hl.1 (Nat.le_of_ble_eq_true rfl) (by decide) dX9_copy_44 (fun H locs hR => ?_)
  refine lv_aload_n C.1 C.2.1 dX9_copy_47 rfl (lv_at hl 1 rfl) ?_
  refine ho_getR (a' := (a1 + 2)) C cf9 fH_RX9_25 hR ha1 (pH_9_4 ha1.2) dX9_copy_48 ?_
  refine lv_iconst (v := (0 : Int32)) C.1 C.2.1 dX9_copy_51 (by decide) ?_
  refine lv_aload_n C.1 C.2.1 dX9_copy_52 rfl (lv_at hl 0 rfl) ?_
  refine ho_getR (a' := (a0 + 2)) C cf9 fH_RX9_25 hR ha0 (pH_9_4 ha0.2) dX9_copy_53 ?_
  refine lv_iconst (v := (0 : Int32)) C.1 C.2.1 dX9_copy_56 (by decide) ?_
  refine lv_bipush (v := (6 : Int32)) C.1 C.2.1 dX9_copy_57 (by decide) ?_
  obtain ⟨S6, e6, hh6, h⟩ := cpI_ok h
  refine hr_cpy C ac_RX9_56 hR (rH_9_2 ha1) (rH_9_2 ha0) hh6 e6 hl.1 (Nat.le_of_ble_eq_true rfl) (by decide) dX9_copy_59 (fun H locs hR => ?_)
  refine lv_aload_n C.1 C.2.1 dX9_copy_62 rfl (lv_at hl 1 rfl) ?_
  refine ho_getR (a' := (a1 + 3)) C cf9 fH_RX9_28 hR ha1 (pH_9_5 ha1.2) dX9_copy_63 ?_
  refine lv_iconst (v := (0 : Int32)) C.1 C.2.1 dX9_copy_66 (by decide) ?_
  refine lv_aload_n C.1 C.2.1 dX9_copy_67 rfl (lv_at hl 0 rfl) ?_
  refine ho_getR (a' := (a0 + 3)) C cf9 fH_RX9_28 hR ha0 (pH_9_5 ha0.2) dX9_copy_68 ?_
  refine lv_iconst (v := (0 : Int32)) C.1 C.2.1 dX9_copy_71 (by decide) ?_
  refine lv_bipush (v := (6 : Int32)) C.1 C.2.1 dX9_copy_72 (by decide) ?_
  obtain ⟨S7, e7, hh7, h⟩ := cpI_ok h
  refine hr_cpy C ac_RX9_56 hR (rH_9_3 ha1) (rH_9_3 ha0) hh7 e7 hl.1 (Nat.le_of_ble_eq_true rfl) (by decide) dX9_copy_74 (fun H locs hR => ?_)
  refine lv_aload_n C.1 C.2.1 dX9_copy_77 rfl (lv_at hl 1 rfl) ?_
  refine ho_getR (a' := (a1 + 4)) C cf9 fH_RX9_31 hR ha1 (pH_9_6 ha1.2) dX9_copy_78 ?_
  refine lv_iconst (v := (0 : Int32)) C.1 C.2.1 dX9_copy_81 (by decide) ?_
  refine lv_aload_n C.1 C.2.1 dX9_copy_82 rfl (lv_at hl 0 rfl) ?_
  refine ho_getR (a' := (a0 + 4)) C cf9 fH_RX9_31 hR ha0 (pH_9_6 ha0.2) dX9_copy_83 ?_
  refine lv_iconst (v := (0 : Int32)) C.1 C.2.1 dX9_copy_86 (by decide) ?_
  refine lv_iconst (v := (5 : Int32)) C.1 C.2.1 dX9_copy_87 (by decide) ?_
  obtain ⟨S8, e8, hh8, h⟩ := cpI_ok h
  refine hr_cpy C ac_RX9_56 hR (rH_9_4 ha1) (rH_9_4 ha0) hh8 e8 hl.1 (Nat.le_of_ble_eq_true rfl) (by decide) dX9_copy_88 (fun H locs hR => ?_)
  refine lv_aload_n C.1 C.2.1 dX9_copy_91 rfl (lv_at hl 1 rfl) ?_
  refine ho_getR (a' := (a1 + 5)) C cf9 fH_RX9_37 hR ha1 (pH_9_8 ha1.2) dX9_copy_92 ?_
  refine lv_iconst (v := (0 : Int32)) C.1 C.2.1 dX9_copy_95 (by decide) ?_
  refine lv_aload_n C.1 C.2.1 dX9_copy_96 rfl (lv_at hl 0 rfl) ?_
  refine ho_getR (a' := (a0 + 5)) C cf9 fH_RX9_37 hR ha0 (pH_9_8 ha0.2) dX9_copy_97 ?_
  refine lv_iconst (v := (0 : Int32)) C.1 C.2.1 dX9_copy_100 (by decide) ?_
  refine lv_aload_n C.1 C.2.1 dX9_copy_101 rfl (lv_at hl 0 rfl) ?_
  refine ho_getI C cf9 fH_RX9_34 hR ha0 dX9_copy_102 ?_
  refine lv_iconst (v := (3 : Int32)) C.1 C.2.1 dX9_copy_105 (by decide) ?_
  refine lv_imul C.1 C.2.1 dX9_copy_106 ?_
  obtain ⟨S9, e9, hh9, h⟩ := cpI_ok h
  refine hr_cpy C ac_RX9_56 hR (rH_9_5 ha1) (rH_9_5 ha0) hh9 e9 hl.1 (Nat.le_of_ble_eq_true rfl) (by decide) dX9_copy_107 (fun H locs hR => ?_)
  exact ho_vret C hR h dX9_copy_110
theorem dX9_seenThrough_0 : decode cX9_seenThrough 0 = .ok (.iconst 0, 1) := by decide +kernel
theorem dX9_seenThrough_1 : decode cX9_seenThrough 1 = .ok (.istore_n 1, 1) := by decide +kernel
theorem dX9_seenThrough_2 : decode cX9_seenThrough 2 = .ok (.iconst 0, 1) := by decide +kernel
theorem dX9_seenThrough_3 : decode cX9_seenThrough 3 = .ok (.istore_n 2, 1) := by decide +kernel
theorem dX9_seenThrough_4 : decode cX9_seenThrough 4 = .ok (.iload_n 2, 1) := by decide +kernel
theorem dX9_seenThrough_5 : decode cX9_seenThrough 5 = .ok (.bipush 6, 2) := by decide +kernel
theorem dX9_seenThrough_7 : decode cX9_seenThrough 7 = .ok (.if_icmp .ge 26, 3) := by decide +kernel
theorem dX9_seenThrough_10 : decode cX9_seenThrough 10 = .ok (.aload_n 0, 1) := by decide +kernel
theorem dX9_seenThrough_11 : decode cX9_seenThrough 11 = .ok (.getfield 28, 3) := by decide +kernel
theorem dX9_seenThrough_14 : decode cX9_seenThrough 14 = .ok (.iload_n 2, 1) := by decide +kernel
theorem dX9_seenThrough_15 : decode cX9_seenThrough 15 = .ok (.iaload, 1) := by decide +kernel
theorem dX9_seenThrough_16 : decode cX9_seenThrough 16 = .ok (.bipush 100, 2) := by decide +kernel
theorem dX9_seenThrough_18 : decode cX9_seenThrough 18 = .ok (.if_icmp .lt 9, 3) := by decide +kernel
theorem dX9_seenThrough_21 : decode cX9_seenThrough 21 = .ok (.iload_n 1, 1) := by decide +kernel
theorem dX9_seenThrough_22 : decode cX9_seenThrough 22 = .ok (.iconst 1, 1) := by decide +kernel
theorem dX9_seenThrough_23 : decode cX9_seenThrough 23 = .ok (.iload_n 2, 1) := by decide +kernel
theorem dX9_seenThrough_24 : decode cX9_seenThrough 24 = .ok (.ishl, 1) := by decide +kernel
theorem dX9_seenThrough_25 : decode cX9_seenThrough 25 = .ok (.ior, 1) := by decide +kernel
theorem dX9_seenThrough_26 : decode cX9_seenThrough 26 = .ok (.istore_n 1, 1) := by decide +kernel
theorem dX9_seenThrough_27 : decode cX9_seenThrough 27 = .ok (.iinc 2 1, 3) := by decide +kernel
theorem dX9_seenThrough_30 : decode cX9_seenThrough 30 = .ok (.goto (-26), 3) := by decide +kernel
theorem dX9_seenThrough_33 : decode cX9_seenThrough 33 = .ok (.iload_n 1, 1) := by decide +kernel
theorem dX9_seenThrough_34 : decode cX9_seenThrough 34 = .ok (.ireturn, 1) := by decide +kernel
def f_X9_seenThrough_27 (K4 : Int32 → Int32 → Hp → Option (Int32 × Hp)) (a0 : Nat) (x1 : Int32) (x2 : Int32) (S : Hp) : Option (Int32 × Hp) :=
  le1 (x2 + (1 : Int32)) (fun v1 => K4 x1 v1 S)
set_option maxHeartbeats 4000000 in
set_option maxRecDepth 100000 in
theorem w_X9_seenThrough_27 {p : Program} {l : Launch} {e : Env} {s : State} {m : MethodId} {args : Array Value} {below : List Frame} {meth : Method} {c : Code} {E : Ev} {S0 : Hp} {r : (Int32 × Hp)} (C : ho_I p s m args meth c RX9 cX9_seenThrough 3 (some .int)) (K4 : Int32 → Int32 → Hp → Option (Int32 × Hp)) (a0 : Nat) (ha0 : a0 ∈ yH.1 ∧ yH.2.1 a0 = (1, 9)) (hK4 : ∀ (y1 : Int32) (y2 : Int32) (S : Hp), K4 y1 y2 S = some r → ho_G p l e s m args below meth c yH E S0 0 3 (some (.int r.1), r.2) 4 [(0, .ref (E.2.1 a0)), (1, .int y1), (2, .int y2)] [] S) :
    ∀ (x1 : Int32) (x2 : Int32) (S : Hp), f_X9_seenThrough_27 K4 a0 x1 x2 S = some r → ho_G p l e s m args below meth c yH E S0 0 3 (some (.int r.1), r.2) 27 [(0, .ref (E.2.1 a0)), (1, .int x1), (2, .int x2)] [] S := by
  intro x1 x2 S h H locs ls hR hl
  unfold f_X9_seenThrough_27 at h
  obtain ⟨v1, e1, h⟩ := le1_ok h
  refine lv_iinc (v := v1) (lv' := [(2, .int v1), (0, .ref (E.2.1 a0)), (1, .int x1)]) C.1 C.2.1 dX9_seenThrough_27 hl (k := 2) rfl (by rw [e1]; rfl) (by decide) rfl (fun ls hl => ?_)
  refine lv_goto (tgt := 4) C.1 C.2.1 dX9_seenThrough_30 (by decide) ?_
  exact hK4 x1 v1 S h _ _ _ hR (lv_sub hl [1, 2, 0] rfl)
def f_X9_seenThrough_4 (a0 : Nat) : Nat → Int32 → Int32 → Hp → Option (Int32 × Hp)
  | 0, _, _, _ => none
  | k + 1, x1, x2, S => if (6 : Int32) ≤ x2 then some (x1, S) else ldI S (a0 + 3) 6 x2 (fun v1 => if v1 < (100 : Int32) then f_X9_seenThrough_27 (f_X9_seenThrough_4 a0 k) a0 x1 x2 S else le1 (x1 ||| ((1 : Int32) <<< (x2 &&& 31))) (fun v2 => f_X9_seenThrough_27 (f_X9_seenThrough_4 a0 k) a0 v2 x2 S))
set_option maxHeartbeats 4000000 in
set_option maxRecDepth 100000 in
theorem w_X9_seenThrough_4 {p : Program} {l : Launch} {e : Env} {s : State} {m : MethodId} {args : Array Value} {below : List Frame} {meth : Method} {c : Code} {E : Ev} {S0 : Hp} {r : (Int32 × Hp)} (C : ho_I p s m args meth c RX9 cX9_seenThrough 3 (some .int)) (a0 : Nat) (ha0 : a0 ∈ yH.1 ∧ yH.2.1 a0 = (1, 9)) :
    ∀ (k : Nat) (x1 : Int32) (x2 : Int32) (S : Hp), f_X9_seenThrough_4 a0 k x1 x2 S = some r → ho_G p l e s m args below meth c yH E S0 0 3 (some (.int r.1), r.2) 4 [(0, .ref (E.2.1 a0)), (1, .int x1), (2, .int x2)] [] S := by
  intro k
  induction k with
  | zero =>
    intro x1 x2 S h
    exact absurd (show (none : Option (Int32 × Hp)) = some r from h) (by simp)
  | succ k ih =>
    intro x1 x2 S h H locs ls hR hl
    rw [f_X9_seenThrough_4] at h
    refine lv_iload_n C.1 C.2.1 dX9_seenThrough_4 rfl (lv_at hl 2 rfl) ?_
    refine lv_bipush (v := (6 : Int32)) C.1 C.2.1 dX9_seenThrough_5 (by decide) ?_
    refine lv_icmp_ge (tgt := 33) C.1 C.2.1 dX9_seenThrough_7 (by decide) (fun hc => ?_) (fun hc => ?_)
    · replace h := if_t h hc
      refine lv_iload_n C.1 C.2.1 dX9_seenThrough_33 rfl (lv_at hl 1 rfl) ?_
      exact ho_iret C hR h dX9_seenThrough_34
    · replace h := if_f h hc
      refine lv_aload_n C.1 C.2.1 dX9_seenThrough_10 rfl (lv_at hl 0 rfl) ?_
      refine ho_getR (a' := (a0 + 3)) C cf9 fH_RX9_28 hR ha0 (pH_9_5 ha0.2) dX9_seenThrough_11 ?_
      refine lv_iload_n C.1 C.2.1 dX9_seenThrough_14 rfl (lv_at hl 2 rfl) ?_
      obtain ⟨v1, e1, hi1, h⟩ := ldI_ok h
      refine hr_ild C hR (rH_9_3 ha0) hi1 e1 dX9_seenThrough_15 ?_
      refine lv_bipush (v := (100 : Int32)) C.1 C.2.1 dX9_seenThrough_16 (by decide) ?_
      refine lv_icmp_lt (tgt := 27) C.1 C.2.1 dX9_seenThrough_18 (by decide) (fun hc => ?_) (fun hc => ?_)
      · replace h := if_t h hc
        exact w_X9_seenThrough_27 C (f_X9_seenThrough_4 a0 k) a0 ha0 ih x1 x2 S h _ _ _ hR (lv_sub hl [0, 1, 2] rfl)
      · replace h := if_f h hc
        refine lv_iload_n C.1 C.2.1 dX9_seenThrough_21 rfl (lv_at hl 1 rfl) ?_
        refine lv_iconst (v := (1 : Int32)) C.1 C.2.1 dX9_seenThrough_22 (by decide) ?_
        refine lv_iload_n C.1 C.2.1 dX9_seenThrough_23 rfl (lv_at hl 2 rfl) ?_
        refine lv_ishl C.1 C.2.1 dX9_seenThrough_24 ?_
        refine lv_ior C.1 C.2.1 dX9_seenThrough_25 ?_
        refine lv_topi (fun v2 e2 => ?_)
        replace h := le1_at e2 h
        refine lv_istore_n (lv' := [(1, .int v2), (0, .ref (E.2.1 a0)), (2, .int x2)]) C.1 C.2.1 dX9_seenThrough_26 rfl hl (by decide) rfl (fun ls hl => ?_)
        exact w_X9_seenThrough_27 C (f_X9_seenThrough_4 a0 k) a0 ha0 ih v2 x2 S h _ _ _ hR (lv_sub hl [1, 0, 2] rfl)
def f_X9_seenThrough (a0 : Nat) (S : Hp) : Option (Int32 × Hp) :=
  f_X9_seenThrough_4 a0 5000 (0 : Int32) (0 : Int32) S
set_option maxHeartbeats 4000000 in
set_option maxRecDepth 100000 in
theorem c_X9_seenThrough (l : Launch) (E : Ev) (a0 : Nat) (ha0 : a0 ∈ yH.1 ∧ yH.2.1 a0 = (1, 9)) (S : Hp) (r : (Int32 × Hp)) (h : f_X9_seenThrough a0 S = some r) : ho_M l yH E yX9_seenThrough cX9_seenThrough 3 (some .int) 0 [.ref (E.2.1 a0)] S (some (.int r.1), r.2) := by
  refine ho_in (by decide) (Nat.le_of_ble_eq_true rfl) ?_
  intro p e s m args below meth c C hR ls hl
  have C : ho_I p s m args meth c RX9 cX9_seenThrough 3 (some .int) := C
  have hl : lv_has ls 3 [(0, .ref (E.2.1 a0))] := hl
  unfold f_X9_seenThrough at h
  refine lv_iconst (v := (0 : Int32)) C.1 C.2.1 dX9_seenThrough_0 (by decide) ?_
  refine lv_istore_n (lv' := [(1, .int (0 : Int32)), (0, .ref (E.2.1 a0))]) C.1 C.2.1 dX9_seenThrough_1 rfl hl (by decide) rfl (fun ls hl => ?_)
  refine lv_iconst (v := (0 : Int32)) C.1 C.2.1 dX9_seenThrough_2 (by decide) ?_
  refine lv_istore_n (lv' := [(2, .int (0 : Int32)), (1, .int (0 : Int32)), (0, .ref (E.2.1 a0))]) C.1 C.2.1 dX9_seenThrough_3 rfl hl (by decide) rfl (fun ls hl => ?_)
  exact w_X9_seenThrough_4 C a0 ha0 5000 (0 : Int32) (0 : Int32) S h _ _ _ hR (lv_sub hl [2, 1, 0] rfl)
theorem dX9_allStores_0 : decode cX9_allStores 0 = .ok (.iconst 0, 1) := by decide +kernel
theorem dX9_allStores_1 : decode cX9_allStores 1 = .ok (.istore_n 1, 1) := by decide +kernel
theorem dX9_allStores_2 : decode cX9_allStores 2 = .ok (.iconst 0, 1) := by decide +kernel
theorem dX9_allStores_3 : decode cX9_allStores 3 = .ok (.istore_n 2, 1) := by decide +kernel
theorem dX9_allStores_4 : decode cX9_allStores 4 = .ok (.iload_n 2, 1) := by decide +kernel
theorem dX9_allStores_5 : decode cX9_allStores 5 = .ok (.bipush 6, 2) := by decide +kernel
theorem dX9_allStores_7 : decode cX9_allStores 7 = .ok (.if_icmp .ge 18, 3) := by decide +kernel
theorem dX9_allStores_10 : decode cX9_allStores 10 = .ok (.iload_n 1, 1) := by decide +kernel
theorem dX9_allStores_11 : decode cX9_allStores 11 = .ok (.aload_n 0, 1) := by decide +kernel
theorem dX9_allStores_12 : decode cX9_allStores 12 = .ok (.getfield 21, 3) := by decide +kernel
theorem dX9_allStores_15 : decode cX9_allStores 15 = .ok (.iload_n 2, 1) := by decide +kernel
theorem dX9_allStores_16 : decode cX9_allStores 16 = .ok (.iaload, 1) := by decide +kernel
theorem dX9_allStores_17 : decode cX9_allStores 17 = .ok (.iadd, 1) := by decide +kernel
theorem dX9_allStores_18 : decode cX9_allStores 18 = .ok (.istore_n 1, 1) := by decide +kernel
theorem dX9_allStores_19 : decode cX9_allStores 19 = .ok (.iinc 2 1, 3) := by decide +kernel
theorem dX9_allStores_22 : decode cX9_allStores 22 = .ok (.goto (-18), 3) := by decide +kernel
theorem dX9_allStores_25 : decode cX9_allStores 25 = .ok (.iload_n 1, 1) := by decide +kernel
theorem dX9_allStores_26 : decode cX9_allStores 26 = .ok (.ireturn, 1) := by decide +kernel
def f_X9_allStores_4 (a0 : Nat) : Nat → Int32 → Int32 → Hp → Option (Int32 × Hp)
  | 0, _, _, _ => none
  | k + 1, x1, x2, S => if (6 : Int32) ≤ x2 then some (x1, S) else ldI S (a0 + 1) 6 x2 (fun v1 => le1 (x1 + v1) (fun v2 => le1 (x2 + (1 : Int32)) (fun v3 => f_X9_allStores_4 a0 k v2 v3 S)))
set_option maxHeartbeats 4000000 in
set_option maxRecDepth 100000 in
theorem w_X9_allStores_4 {p : Program} {l : Launch} {e : Env} {s : State} {m : MethodId} {args : Array Value} {below : List Frame} {meth : Method} {c : Code} {E : Ev} {S0 : Hp} {r : (Int32 × Hp)} (C : ho_I p s m args meth c RX9 cX9_allStores 3 (some .int)) (a0 : Nat) (ha0 : a0 ∈ yH.1 ∧ yH.2.1 a0 = (1, 9)) :
    ∀ (k : Nat) (x1 : Int32) (x2 : Int32) (S : Hp), f_X9_allStores_4 a0 k x1 x2 S = some r → ho_G p l e s m args below meth c yH E S0 0 3 (some (.int r.1), r.2) 4 [(0, .ref (E.2.1 a0)), (1, .int x1), (2, .int x2)] [] S := by
  intro k
  induction k with
  | zero =>
    intro x1 x2 S h
    exact absurd (show (none : Option (Int32 × Hp)) = some r from h) (by simp)
  | succ k ih =>
    intro x1 x2 S h H locs ls hR hl
    rw [f_X9_allStores_4] at h
    refine lv_iload_n C.1 C.2.1 dX9_allStores_4 rfl (lv_at hl 2 rfl) ?_
    refine lv_bipush (v := (6 : Int32)) C.1 C.2.1 dX9_allStores_5 (by decide) ?_
    refine lv_icmp_ge (tgt := 25) C.1 C.2.1 dX9_allStores_7 (by decide) (fun hc => ?_) (fun hc => ?_)
    · replace h := if_t h hc
      refine lv_iload_n C.1 C.2.1 dX9_allStores_25 rfl (lv_at hl 1 rfl) ?_
      exact ho_iret C hR h dX9_allStores_26
    · replace h := if_f h hc
      refine lv_iload_n C.1 C.2.1 dX9_allStores_10 rfl (lv_at hl 1 rfl) ?_
      refine lv_aload_n C.1 C.2.1 dX9_allStores_11 rfl (lv_at hl 0 rfl) ?_
      refine ho_getR (a' := (a0 + 1)) C cf9 fH_RX9_21 hR ha0 (pH_9_3 ha0.2) dX9_allStores_12 ?_
      refine lv_iload_n C.1 C.2.1 dX9_allStores_15 rfl (lv_at hl 2 rfl) ?_
      obtain ⟨v1, e1, hi1, h⟩ := ldI_ok h
      refine hr_ild C hR (rH_9_1 ha0) hi1 e1 dX9_allStores_16 ?_
      refine lv_iadd C.1 C.2.1 dX9_allStores_17 ?_
      refine lv_topi (fun v2 e2 => ?_)
      replace h := le1_at e2 h
      refine lv_istore_n (lv' := [(1, .int v2), (0, .ref (E.2.1 a0)), (2, .int x2)]) C.1 C.2.1 dX9_allStores_18 rfl hl (by decide) rfl (fun ls hl => ?_)
      obtain ⟨v3, e3, h⟩ := le1_ok h
      refine lv_iinc (v := v3) (lv' := [(2, .int v3), (1, .int v2), (0, .ref (E.2.1 a0))]) C.1 C.2.1 dX9_allStores_19 hl (k := 2) rfl (by rw [e3]; rfl) (by decide) rfl (fun ls hl => ?_)
      refine lv_goto (tgt := 4) C.1 C.2.1 dX9_allStores_22 (by decide) ?_
      exact ih v2 v3 S h _ _ _ hR (lv_sub hl [2, 1, 0] rfl)
def f_X9_allStores (a0 : Nat) (S : Hp) : Option (Int32 × Hp) :=
  f_X9_allStores_4 a0 5000 (0 : Int32) (0 : Int32) S
set_option maxHeartbeats 4000000 in
set_option maxRecDepth 100000 in
theorem c_X9_allStores (l : Launch) (E : Ev) (a0 : Nat) (ha0 : a0 ∈ yH.1 ∧ yH.2.1 a0 = (1, 9)) (S : Hp) (r : (Int32 × Hp)) (h : f_X9_allStores a0 S = some r) : ho_M l yH E yX9_allStores cX9_allStores 3 (some .int) 0 [.ref (E.2.1 a0)] S (some (.int r.1), r.2) := by
  refine ho_in (by decide) (Nat.le_of_ble_eq_true rfl) ?_
  intro p e s m args below meth c C hR ls hl
  have C : ho_I p s m args meth c RX9 cX9_allStores 3 (some .int) := C
  have hl : lv_has ls 3 [(0, .ref (E.2.1 a0))] := hl
  unfold f_X9_allStores at h
  refine lv_iconst (v := (0 : Int32)) C.1 C.2.1 dX9_allStores_0 (by decide) ?_
  refine lv_istore_n (lv' := [(1, .int (0 : Int32)), (0, .ref (E.2.1 a0))]) C.1 C.2.1 dX9_allStores_1 rfl hl (by decide) rfl (fun ls hl => ?_)
  refine lv_iconst (v := (0 : Int32)) C.1 C.2.1 dX9_allStores_2 (by decide) ?_
  refine lv_istore_n (lv' := [(2, .int (0 : Int32)), (1, .int (0 : Int32)), (0, .ref (E.2.1 a0))]) C.1 C.2.1 dX9_allStores_3 rfl hl (by decide) rfl (fun ls hl => ?_)
  exact w_X9_allStores_4 C a0 ha0 5000 (0 : Int32) (0 : Int32) S h _ _ _ hR (lv_sub hl [2, 1, 0] rfl)
theorem dX0_note_0 : decode cX0_note 0 = .ok (.aload_n 0, 1) := by decide +kernel
theorem dX0_note_1 : decode cX0_note 1 = .ok (.getfield 9, 3) := by decide +kernel
theorem dX0_note_4 : decode cX0_note 4 = .ok (.iload_n 1, 1) := by decide +kernel
theorem dX0_note_5 : decode cX0_note 5 = .ok (.aload_n 0, 1) := by decide +kernel
theorem dX0_note_6 : decode cX0_note 6 = .ok (.getfield 30, 3) := by decide +kernel
theorem dX0_note_9 : decode cX0_note 9 = .ok (.getfield 126, 3) := by decide +kernel
theorem dX0_note_12 : decode cX0_note 12 = .ok (.iastore, 1) := by decide +kernel
theorem dX0_note_13 : decode cX0_note 13 = .ok (.aload_n 0, 1) := by decide +kernel
theorem dX0_note_14 : decode cX0_note 14 = .ok (.getfield 15, 3) := by decide +kernel
theorem dX0_note_17 : decode cX0_note 17 = .ok (.iload_n 1, 1) := by decide +kernel
theorem dX0_note_18 : decode cX0_note 18 = .ok (.aload_n 0, 1) := by decide +kernel
theorem dX0_note_19 : decode cX0_note 19 = .ok (.getfield 30, 3) := by decide +kernel
theorem dX0_note_22 : decode cX0_note 22 = .ok (.getfield 129, 3) := by decide +kernel
theorem dX0_note_25 : decode cX0_note 25 = .ok (.iastore, 1) := by decide +kernel
theorem dX0_note_26 : decode cX0_note 26 = .ok (.aload_n 0, 1) := by decide +kernel
theorem dX0_note_27 : decode cX0_note 27 = .ok (.getfield 18, 3) := by decide +kernel
theorem dX0_note_30 : decode cX0_note 30 = .ok (.iload_n 1, 1) := by decide +kernel
theorem dX0_note_31 : decode cX0_note 31 = .ok (.aload_n 0, 1) := by decide +kernel
theorem dX0_note_32 : decode cX0_note 32 = .ok (.getfield 30, 3) := by decide +kernel
theorem dX0_note_35 : decode cX0_note 35 = .ok (.invokevirtual 132, 3) := by decide +kernel
theorem dX0_note_38 : decode cX0_note 38 = .ok (.iastore, 1) := by decide +kernel
theorem dX0_note_39 : decode cX0_note 39 = .ok (.aload_n 0, 1) := by decide +kernel
theorem dX0_note_40 : decode cX0_note 40 = .ok (.getfield 21, 3) := by decide +kernel
theorem dX0_note_43 : decode cX0_note 43 = .ok (.iload_n 1, 1) := by decide +kernel
theorem dX0_note_44 : decode cX0_note 44 = .ok (.aload_n 0, 1) := by decide +kernel
theorem dX0_note_45 : decode cX0_note 45 = .ok (.getfield 30, 3) := by decide +kernel
theorem dX0_note_48 : decode cX0_note 48 = .ok (.invokevirtual 136, 3) := by decide +kernel
theorem dX0_note_51 : decode cX0_note 51 = .ok (.iastore, 1) := by decide +kernel
theorem dX0_note_52 : decode cX0_note 52 = .ok (.aload_n 0, 1) := by decide +kernel
theorem dX0_note_53 : decode cX0_note 53 = .ok (.iload_n 1, 1) := by decide +kernel
theorem dX0_note_54 : decode cX0_note 54 = .ok (.putfield 55, 3) := by decide +kernel
theorem dX0_note_57 : decode cX0_note 57 = .ok (.return_, 1) := by decide +kernel
def f_X0_note (x1 : Int32) (S : Hp) : Option Hp :=
  stI S 61 61 x1 (S.1 1220 1) (fun S1 => stI S1 62 61 x1 (S1.1 1220 2) (fun S2 => ob2 (f_X9_seenThrough 1220 S2) (fun r3 S3 => stI S3 63 61 x1 r3 (fun S4 => ob2 (f_X9_allStores 1220 S4) (fun r5 S5 => stI S5 64 61 x1 r5 (fun S6 => le1 (ho_sI S6 60 14 x1) (fun S7 => some S7)))))))
set_option maxHeartbeats 4000000 in
set_option maxRecDepth 100000 in
theorem c_X0_note (l : Launch) (E : Ev) (x1 : Int32) (S : Hp) (r : Hp) (h : f_X0_note x1 S = some r) : ho_M l yH E yX0_note cX0_note 2 none 1 [.ref (E.2.1 60), .int x1] S (none, r) := by
  refine ho_in (by decide) (Nat.le_of_ble_eq_true rfl) ?_
  intro p e s m args below meth c C hR ls hl
  have C : ho_I p s m args meth c RX0 cX0_note 2 none := C
  have hl : lv_has ls 2 [(0, .ref (E.2.1 60)), (1, .int x1)] := hl
  unfold f_X0_note at h
  refine lv_aload_n C.1 C.2.1 dX0_note_0 rfl (lv_at hl 0 rfl) ?_
  refine ho_getR (a' := 61) C cf0 fH_RX0_9 hR aH_60 rfl dX0_note_1 ?_
  refine lv_iload_n C.1 C.2.1 dX0_note_4 rfl (lv_at hl 1 rfl) ?_
  refine lv_aload_n C.1 C.2.1 dX0_note_5 rfl (lv_at hl 0 rfl) ?_
  refine ho_getR (a' := 1220) C cf0 fH_RX0_30 hR aH_60 rfl dX0_note_6 ?_
  refine ho_getI C cf9 fH_RX0_126 hR aH_1220 dX0_note_9 ?_
  obtain ⟨S1, e1, hi1, h⟩ := stI_ok h
  refine hr_ist C hR aH_61 hi1 e1 dX0_note_12 (fun H locs hR => ?_)
  refine lv_aload_n C.1 C.2.1 dX0_note_13 rfl (lv_at hl 0 rfl) ?_
  refine ho_getR (a' := 62) C cf0 fH_RX0_15 hR aH_60 rfl dX0_note_14 ?_
  refine lv_iload_n C.1 C.2.1 dX0_note_17 rfl (lv_at hl 1 rfl) ?_
  refine lv_aload_n C.1 C.2.1 dX0_note_18 rfl (lv_at hl 0 rfl) ?_
  refine ho_getR (a' := 1220) C cf0 fH_RX0_30 hR aH_60 rfl dX0_note_19 ?_
  refine ho_getI C cf9 fH_RX0_129 hR aH_1220 dX0_note_22 ?_
  obtain ⟨S2, e2, hi2, h⟩ := stI_ok h
  refine hr_ist C hR aH_62 hi2 e2 dX0_note_25 (fun H locs hR => ?_)
  refine lv_aload_n C.1 C.2.1 dX0_note_26 rfl (lv_at hl 0 rfl) ?_
  refine ho_getR (a' := 63) C cf0 fH_RX0_18 hR aH_60 rfl dX0_note_27 ?_
  refine lv_iload_n C.1 C.2.1 dX0_note_30 rfl (lv_at hl 1 rfl) ?_
  refine lv_aload_n C.1 C.2.1 dX0_note_31 rfl (lv_at hl 0 rfl) ?_
  refine ho_getR (a' := 1220) C cf0 fH_RX0_30 hR aH_60 rfl dX0_note_32 ?_
  obtain ⟨r3, S3, h3, h⟩ := ob2_ok h
  refine hr_Vi (v := r3) (S' := S3) (As := []) (rest := [.int x1, .ref (E.2.1 63)]) C cf9 (c_X9_seenThrough l E 1220 aH_1220 _ _ h3) yv_X9_seenThrough lk_RX0_132 rfl aH_1220 rfl rfl hl.1 (Nat.le_of_ble_eq_true rfl) (by decide) (by decide) hR (ho_A hR) dX0_note_35 (fun H locs hR => ?_)
  obtain ⟨S4, e4, hi4, h⟩ := stI_ok h
  refine hr_ist C hR aH_63 hi4 e4 dX0_note_38 (fun H locs hR => ?_)
  refine lv_aload_n C.1 C.2.1 dX0_note_39 rfl (lv_at hl 0 rfl) ?_
  refine ho_getR (a' := 64) C cf0 fH_RX0_21 hR aH_60 rfl dX0_note_40 ?_
  refine lv_iload_n C.1 C.2.1 dX0_note_43 rfl (lv_at hl 1 rfl) ?_
  refine lv_aload_n C.1 C.2.1 dX0_note_44 rfl (lv_at hl 0 rfl) ?_
  refine ho_getR (a' := 1220) C cf0 fH_RX0_30 hR aH_60 rfl dX0_note_45 ?_
  obtain ⟨r5, S5, h5, h⟩ := ob2_ok h
  refine hr_Vi (v := r5) (S' := S5) (As := []) (rest := [.int x1, .ref (E.2.1 64)]) C cf9 (c_X9_allStores l E 1220 aH_1220 _ _ h5) yv_X9_allStores lk_RX0_136 rfl aH_1220 rfl rfl hl.1 (Nat.le_of_ble_eq_true rfl) (by decide) (by decide) hR (ho_A hR) dX0_note_48 (fun H locs hR => ?_)
  obtain ⟨S6, e6, hi6, h⟩ := stI_ok h
  refine hr_ist C hR aH_64 hi6 e6 dX0_note_51 (fun H locs hR => ?_)
  refine lv_aload_n C.1 C.2.1 dX0_note_52 rfl (lv_at hl 0 rfl) ?_
  refine lv_iload_n C.1 C.2.1 dX0_note_53 rfl (lv_at hl 1 rfl) ?_
  obtain ⟨S7, e7, h⟩ := le1_ok h
  refine hr_putI C cf0 fH_RX0_55 hR aH_60 e7 dX0_note_54 (fun H locs hR => ?_)
  exact ho_vret C hR h dX0_note_57
theorem dJ9_min_7cf53_0 : decode cJ9_min_7cf53 0 = .ok (.iload_n 0, 1) := by decide +kernel
theorem dJ9_min_7cf53_1 : decode cJ9_min_7cf53 1 = .ok (.iload_n 1, 1) := by decide +kernel
theorem dJ9_min_7cf53_2 : decode cJ9_min_7cf53 2 = .ok (.if_icmp .gt 7, 3) := by decide +kernel
theorem dJ9_min_7cf53_5 : decode cJ9_min_7cf53 5 = .ok (.iload_n 0, 1) := by decide +kernel
theorem dJ9_min_7cf53_6 : decode cJ9_min_7cf53 6 = .ok (.goto 4, 3) := by decide +kernel
theorem dJ9_min_7cf53_9 : decode cJ9_min_7cf53 9 = .ok (.iload_n 1, 1) := by decide +kernel
theorem dJ9_min_7cf53_10 : decode cJ9_min_7cf53 10 = .ok (.ireturn, 1) := by decide +kernel
def f_J9_min_7cf53 (x0 : Int32) (x1 : Int32) (S : Hp) : Option (Int32 × Hp) :=
  if x1 < x0 then some (x1, S) else some (x0, S)
set_option maxHeartbeats 4000000 in
set_option maxRecDepth 100000 in
theorem c_J9_min_7cf53 (l : Launch) (E : Ev) (x0 : Int32) (x1 : Int32) (S : Hp) (r : (Int32 × Hp)) (h : f_J9_min_7cf53 x0 x1 S = some r) : ho_M l yH E yJ9_min_7cf53 cJ9_min_7cf53 2 (some .int) 0 [.int x0, .int x1] S (some (.int r.1), r.2) := by
  refine ho_inF plF_J9_min_7cf53 (Nat.le_of_ble_eq_true rfl) ?_
  intro p e s m args below meth c C hR ls hl
  have C : ho_I p s m args meth c RJ9 cJ9_min_7cf53 2 (some .int) := C
  have hl : lv_has ls 2 [(0, .int x0), (1, .int x1)] := hl
  unfold f_J9_min_7cf53 at h
  refine lv_iload_n C.1 C.2.1 dJ9_min_7cf53_0 rfl (lv_at hl 0 rfl) ?_
  refine lv_iload_n C.1 C.2.1 dJ9_min_7cf53_1 rfl (lv_at hl 1 rfl) ?_
  refine lv_icmp_gt (tgt := 9) C.1 C.2.1 dJ9_min_7cf53_2 (by decide) (fun hc => ?_) (fun hc => ?_)
  · replace h := if_t h hc
    refine lv_iload_n C.1 C.2.1 dJ9_min_7cf53_9 rfl (lv_at hl 1 rfl) ?_
    exact ho_iret C hR h dJ9_min_7cf53_10
  · replace h := if_f h hc
    refine lv_iload_n C.1 C.2.1 dJ9_min_7cf53_5 rfl (lv_at hl 0 rfl) ?_
    refine lv_goto (tgt := 10) C.1 C.2.1 dJ9_min_7cf53_6 (by decide) ?_
    exact ho_iret C hR h dJ9_min_7cf53_10
theorem dX8_ripen_0 : decode cX8_ripen 0 = .ok (.iconst 0, 1) := by decide +kernel
theorem dX8_ripen_1 : decode cX8_ripen 1 = .ok (.istore_n 2, 1) := by decide +kernel
theorem dX8_ripen_2 : decode cX8_ripen 2 = .ok (.iload_n 2, 1) := by decide +kernel
theorem dX8_ripen_3 : decode cX8_ripen 3 = .ok (.aload_n 0, 1) := by decide +kernel
theorem dX8_ripen_4 : decode cX8_ripen 4 = .ok (.getfield 36, 3) := by decide +kernel
theorem dX8_ripen_7 : decode cX8_ripen 7 = .ok (.getfield 75, 3) := by decide +kernel
theorem dX8_ripen_10 : decode cX8_ripen 10 = .ok (.iconst 0, 1) := by decide +kernel
theorem dX8_ripen_11 : decode cX8_ripen 11 = .ok (.iaload, 1) := by decide +kernel
theorem dX8_ripen_12 : decode cX8_ripen 12 = .ok (.if_icmp .ge 37, 3) := by decide +kernel
theorem dX8_ripen_15 : decode cX8_ripen 15 = .ok (.aload_n 1, 1) := by decide +kernel
theorem dX8_ripen_16 : decode cX8_ripen 16 = .ok (.getfield 99, 3) := by decide +kernel
theorem dX8_ripen_19 : decode cX8_ripen 19 = .ok (.iload_n 2, 1) := by decide +kernel
theorem dX8_ripen_20 : decode cX8_ripen 20 = .ok (.sipush 9999, 3) := by decide +kernel
theorem dX8_ripen_23 : decode cX8_ripen 23 = .ok (.aload_n 1, 1) := by decide +kernel
theorem dX8_ripen_24 : decode cX8_ripen 24 = .ok (.getfield 99, 3) := by decide +kernel
theorem dX8_ripen_27 : decode cX8_ripen 27 = .ok (.iload_n 2, 1) := by decide +kernel
theorem dX8_ripen_28 : decode cX8_ripen 28 = .ok (.iaload, 1) := by decide +kernel
theorem dX8_ripen_29 : decode cX8_ripen 29 = .ok (.aload_n 0, 1) := by decide +kernel
theorem dX8_ripen_30 : decode cX8_ripen 30 = .ok (.getfield 36, 3) := by decide +kernel
theorem dX8_ripen_33 : decode cX8_ripen 33 = .ok (.getfield 112, 3) := by decide +kernel
theorem dX8_ripen_36 : decode cX8_ripen 36 = .ok (.iload_n 2, 1) := by decide +kernel
theorem dX8_ripen_37 : decode cX8_ripen 37 = .ok (.iaload, 1) := by decide +kernel
theorem dX8_ripen_38 : decode cX8_ripen 38 = .ok (.iadd, 1) := by decide +kernel
theorem dX8_ripen_39 : decode cX8_ripen 39 = .ok (.invokestatic 66, 3) := by decide +kernel
theorem dX8_ripen_42 : decode cX8_ripen 42 = .ok (.iastore, 1) := by decide +kernel
theorem dX8_ripen_43 : decode cX8_ripen 43 = .ok (.iinc 2 1, 3) := by decide +kernel
theorem dX8_ripen_46 : decode cX8_ripen 46 = .ok (.goto (-44), 3) := by decide +kernel
theorem dX8_ripen_49 : decode cX8_ripen 49 = .ok (.return_, 1) := by decide +kernel
def f_X8_ripen_2 (a1 : Nat) : Nat → Int32 → Hp → Option Hp
  | 0, _, _ => none
  | k + 1, x2, S => ldP yH S 50 0 2 (fun p1 => ldI S (p1 + 1) 3 (0 : Int32) (fun v2 => if v2 ≤ x2 then some S else ldI S (a1 + 1) 6 x2 (fun v3 => ldP yH S 50 0 2 (fun p4 => ldI S (p4 + 7) 6 x2 (fun v5 => ob2 (f_J9_min_7cf53 (9999 : Int32) (v3 + v5) S) (fun r6 S6 => stI S6 (a1 + 1) 6 x2 r6 (fun S7 => le1 (x2 + (1 : Int32)) (fun v8 => f_X8_ripen_2 a1 k v8 S7))))))))
set_option maxHeartbeats 4000000 in
set_option maxRecDepth 100000 in
theorem w_X8_ripen_2 {p : Program} {l : Launch} {e : Env} {s : State} {m : MethodId} {args : Array Value} {below : List Frame} {meth : Method} {c : Code} {E : Ev} {S0 : Hp} {r : Hp} (C : ho_I p s m args meth c RX8 cX8_ripen 3 none) (a1 : Nat) (ha1 : a1 ∈ yH.1 ∧ yH.2.1 a1 = (1, 9)) :
    ∀ (k : Nat) (x2 : Int32) (S : Hp), f_X8_ripen_2 a1 k x2 S = some r → ho_G p l e s m args below meth c yH E S0 1 3 (none, r) 2 [(0, .ref (E.2.1 50)), (1, .ref (E.2.1 a1)), (2, .int x2)] [] S := by
  intro k
  induction k with
  | zero =>
    intro x2 S h
    exact absurd (show (none : Option Hp) = some r from h) (by simp)
  | succ k ih =>
    intro x2 S h H locs ls hR hl
    rw [f_X8_ripen_2] at h
    refine lv_iload_n C.1 C.2.1 dX8_ripen_2 rfl (lv_at hl 2 rfl) ?_
    refine lv_aload_n C.1 C.2.1 dX8_ripen_3 rfl (lv_at hl 0 rfl) ?_
    obtain ⟨p1, e1, hp1, h⟩ := ldP_ok h
    refine hr_getP C cf8 fH_RX8_36 hR aH_50 e1 dX8_ripen_4 ?_
    refine ho_getR (a' := (p1 + 1)) C cf2 fH_RX8_75 hR hp1 (pH_2_5 hp1.2) dX8_ripen_7 ?_
    refine lv_iconst (v := (0 : Int32)) C.1 C.2.1 dX8_ripen_10 (by decide) ?_
    obtain ⟨v2, e2, hi2, h⟩ := ldI_ok h
    refine hr_ild C hR (rH_2_1 hp1) hi2 e2 dX8_ripen_11 ?_
    refine lv_icmp_ge (tgt := 49) C.1 C.2.1 dX8_ripen_12 (by decide) (fun hc => ?_) (fun hc => ?_)
    · replace h := if_t h hc
      exact ho_vret C hR h dX8_ripen_49
    · replace h := if_f h hc
      refine lv_aload_n C.1 C.2.1 dX8_ripen_15 rfl (lv_at hl 1 rfl) ?_
      refine ho_getR (a' := (a1 + 1)) C cf9 fH_RX8_99 hR ha1 (pH_9_3 ha1.2) dX8_ripen_16 ?_
      refine lv_iload_n C.1 C.2.1 dX8_ripen_19 rfl (lv_at hl 2 rfl) ?_
      refine lv_sipush (v := (9999 : Int32)) C.1 C.2.1 dX8_ripen_20 (by decide) ?_
      refine lv_aload_n C.1 C.2.1 dX8_ripen_23 rfl (lv_at hl 1 rfl) ?_
      refine ho_getR (a' := (a1 + 1)) C cf9 fH_RX8_99 hR ha1 (pH_9_3 ha1.2) dX8_ripen_24 ?_
      refine lv_iload_n C.1 C.2.1 dX8_ripen_27 rfl (lv_at hl 2 rfl) ?_
      obtain ⟨v3, e3, hi3, h⟩ := ldI_ok h
      refine hr_ild C hR (rH_9_1 ha1) hi3 e3 dX8_ripen_28 ?_
      refine lv_aload_n C.1 C.2.1 dX8_ripen_29 rfl (lv_at hl 0 rfl) ?_
      obtain ⟨p4, e4, hp4, h⟩ := ldP_ok h
      refine hr_getP C cf8 fH_RX8_36 hR aH_50 e4 dX8_ripen_30 ?_
      refine ho_getR (a' := (p4 + 7)) C cf2 fH_RX8_112 hR hp4 (pH_2_8 hp4.2) dX8_ripen_33 ?_
      refine lv_iload_n C.1 C.2.1 dX8_ripen_36 rfl (lv_at hl 2 rfl) ?_
      obtain ⟨v5, e5, hi5, h⟩ := ldI_ok h
      refine hr_ild C hR (rH_2_7 hp4) hi5 e5 dX8_ripen_37 ?_
      refine lv_iadd C.1 C.2.1 dX8_ripen_38 ?_
      obtain ⟨r6, S6, h6, h⟩ := ob2_ok h
      refine hr_Si (v := r6) (S' := S6) (As := [.int (9999 : Int32), .int (v3 + v5)]) (rest := [.int x2, .ref (E.2.1 (a1 + 1))]) C (c_J9_min_7cf53 l E (9999 : Int32) (v3 + v5) _ _ h6) ys_J9_min_7cf53 lk_RX8_66 rfl rfl hl.1 (Nat.le_of_ble_eq_true rfl) (by decide) (by decide) hR (ho_A hR) dX8_ripen_39 (fun H locs hR => ?_)
      obtain ⟨S7, e7, hi7, h⟩ := stI_ok h
      refine hr_ist C hR (rH_9_1 ha1) hi7 e7 dX8_ripen_42 (fun H locs hR => ?_)
      obtain ⟨v8, e8, h⟩ := le1_ok h
      refine lv_iinc (v := v8) (lv' := [(2, .int v8), (0, .ref (E.2.1 50)), (1, .ref (E.2.1 a1))]) C.1 C.2.1 dX8_ripen_43 hl (k := 2) rfl (by rw [e8]; rfl) (by decide) rfl (fun ls hl => ?_)
      refine lv_goto (tgt := 2) C.1 C.2.1 dX8_ripen_46 (by decide) ?_
      exact ih v8 S7 h _ _ _ hR (lv_sub hl [1, 2, 0] rfl)
def f_X8_ripen (a1 : Nat) (S : Hp) : Option Hp :=
  f_X8_ripen_2 a1 5000 (0 : Int32) S
set_option maxHeartbeats 4000000 in
set_option maxRecDepth 100000 in
theorem c_X8_ripen (l : Launch) (E : Ev) (a1 : Nat) (ha1 : a1 ∈ yH.1 ∧ yH.2.1 a1 = (1, 9)) (S : Hp) (r : Hp) (h : f_X8_ripen a1 S = some r) : ho_M l yH E yX8_ripen cX8_ripen 3 none 1 [.ref (E.2.1 50), .ref (E.2.1 a1)] S (none, r) := by
  refine ho_in (by decide) (Nat.le_of_ble_eq_true rfl) ?_
  intro p e s m args below meth c C hR ls hl
  have C : ho_I p s m args meth c RX8 cX8_ripen 3 none := C
  have hl : lv_has ls 3 [(0, .ref (E.2.1 50)), (1, .ref (E.2.1 a1))] := hl
  unfold f_X8_ripen at h
  refine lv_iconst (v := (0 : Int32)) C.1 C.2.1 dX8_ripen_0 (by decide) ?_
  refine lv_istore_n (lv' := [(2, .int (0 : Int32)), (0, .ref (E.2.1 50)), (1, .ref (E.2.1 a1))]) C.1 C.2.1 dX8_ripen_1 rfl hl (by decide) rfl (fun ls hl => ?_)
  exact w_X8_ripen_2 C a1 ha1 5000 (0 : Int32) S h _ _ _ hR (lv_sub hl [1, 2, 0] rfl)
theorem dX8_showable_0 : decode cX8_showable 0 = .ok (.aload_n 1, 1) := by decide +kernel
theorem dX8_showable_1 : decode cX8_showable 1 = .ok (.getfield 105, 3) := by decide +kernel
theorem dX8_showable_4 : decode cX8_showable 4 = .ok (.ifCond .ne 5, 3) := by decide +kernel
theorem dX8_showable_7 : decode cX8_showable 7 = .ok (.iconst 0, 1) := by decide +kernel
theorem dX8_showable_8 : decode cX8_showable 8 = .ok (.ireturn, 1) := by decide +kernel
theorem dX8_showable_9 : decode cX8_showable 9 = .ok (.iconst 1, 1) := by decide +kernel
theorem dX8_showable_10 : decode cX8_showable 10 = .ok (.aload_n 0, 1) := by decide +kernel
theorem dX8_showable_11 : decode cX8_showable 11 = .ok (.getfield 36, 3) := by decide +kernel
theorem dX8_showable_14 : decode cX8_showable 14 = .ok (.getfield 75, 3) := by decide +kernel
theorem dX8_showable_17 : decode cX8_showable 17 = .ok (.iconst 1, 1) := by decide +kernel
theorem dX8_showable_18 : decode cX8_showable 18 = .ok (.iaload, 1) := by decide +kernel
theorem dX8_showable_19 : decode cX8_showable 19 = .ok (.ishl, 1) := by decide +kernel
theorem dX8_showable_20 : decode cX8_showable 20 = .ok (.iconst 1, 1) := by decide +kernel
theorem dX8_showable_21 : decode cX8_showable 21 = .ok (.isub, 1) := by decide +kernel
theorem dX8_showable_22 : decode cX8_showable 22 = .ok (.aload_n 1, 1) := by decide +kernel
theorem dX8_showable_23 : decode cX8_showable 23 = .ok (.invokevirtual 108, 3) := by decide +kernel
theorem dX8_showable_26 : decode cX8_showable 26 = .ok (.iconst (-1), 1) := by decide +kernel
theorem dX8_showable_27 : decode cX8_showable 27 = .ok (.ixor, 1) := by decide +kernel
theorem dX8_showable_28 : decode cX8_showable 28 = .ok (.iand, 1) := by decide +kernel
theorem dX8_showable_29 : decode cX8_showable 29 = .ok (.ireturn, 1) := by decide +kernel
def f_X8_showable (a1 : Nat) (S : Hp) : Option (Int32 × Hp) :=
  if (S.1 a1 2) = 0 then some ((0 : Int32), S) else ldP yH S 50 0 2 (fun p1 => ldI S (p1 + 1) 3 (1 : Int32) (fun v2 => ob2 (f_X9_seenThrough a1 S) (fun r3 S3 => some (((((1 : Int32) <<< (v2 &&& 31)) - (1 : Int32)) &&& (r3 ^^^ (-1 : Int32))), S3))))
set_option maxHeartbeats 4000000 in
set_option maxRecDepth 100000 in
theorem c_X8_showable (l : Launch) (E : Ev) (a1 : Nat) (ha1 : a1 ∈ yH.1 ∧ yH.2.1 a1 = (1, 9)) (S : Hp) (r : (Int32 × Hp)) (h : f_X8_showable a1 S = some r) : ho_M l yH E yX8_showable cX8_showable 2 (some .int) 1 [.ref (E.2.1 50), .ref (E.2.1 a1)] S (some (.int r.1), r.2) := by
  refine ho_in (by decide) (Nat.le_of_ble_eq_true rfl) ?_
  intro p e s m args below meth c C hR ls hl
  have C : ho_I p s m args meth c RX8 cX8_showable 2 (some .int) := C
  have hl : lv_has ls 2 [(0, .ref (E.2.1 50)), (1, .ref (E.2.1 a1))] := hl
  unfold f_X8_showable at h
  refine lv_aload_n C.1 C.2.1 dX8_showable_0 rfl (lv_at hl 1 rfl) ?_
  refine ho_getI C cf9 fH_RX8_105 hR ha1 dX8_showable_1 ?_
  refine lv_if_ne (tgt := 9) C.1 C.2.1 dX8_showable_4 (by decide) (fun hc => ?_) (fun hc => ?_)
  · replace h := if_f h hc
    refine lv_iconst (v := (1 : Int32)) C.1 C.2.1 dX8_showable_9 (by decide) ?_
    refine lv_aload_n C.1 C.2.1 dX8_showable_10 rfl (lv_at hl 0 rfl) ?_
    obtain ⟨p1, e1, hp1, h⟩ := ldP_ok h
    refine hr_getP C cf8 fH_RX8_36 hR aH_50 e1 dX8_showable_11 ?_
    refine ho_getR (a' := (p1 + 1)) C cf2 fH_RX8_75 hR hp1 (pH_2_5 hp1.2) dX8_showable_14 ?_
    refine lv_iconst (v := (1 : Int32)) C.1 C.2.1 dX8_showable_17 (by decide) ?_
    obtain ⟨v2, e2, hi2, h⟩ := ldI_ok h
    refine hr_ild C hR (rH_2_1 hp1) hi2 e2 dX8_showable_18 ?_
    refine lv_ishl C.1 C.2.1 dX8_showable_19 ?_
    refine lv_iconst (v := (1 : Int32)) C.1 C.2.1 dX8_showable_20 (by decide) ?_
    refine lv_isub C.1 C.2.1 dX8_showable_21 ?_
    refine lv_aload_n C.1 C.2.1 dX8_showable_22 rfl (lv_at hl 1 rfl) ?_
    obtain ⟨r3, S3, h3, h⟩ := ob2_ok h
    refine hr_Vi (v := r3) (S' := S3) (As := []) (rest := [.int (((1 : Int32) <<< (v2 &&& 31)) - (1 : Int32))]) C cf9 (c_X9_seenThrough l E a1 ha1 _ _ h3) yv_X9_seenThrough lk_RX8_108 rfl ha1 rfl rfl hl.1 (Nat.le_of_ble_eq_true rfl) (by decide) (by decide) hR (ho_A hR) dX8_showable_23 (fun H locs hR => ?_)
    refine lv_iconst (v := (-1 : Int32)) C.1 C.2.1 dX8_showable_26 (by decide) ?_
    refine lv_ixor C.1 C.2.1 dX8_showable_27 ?_
    refine lv_iand C.1 C.2.1 dX8_showable_28 ?_
    exact ho_iret C hR h dX8_showable_29
  · replace h := if_t h hc
    refine lv_iconst (v := (0 : Int32)) C.1 C.2.1 dX8_showable_7 (by decide) ?_
    exact ho_iret C hR h dX8_showable_8
theorem dX4_factAt_0 : decode cX4_factAt 0 = .ok (.iload_n 1, 1) := by decide +kernel
theorem dX4_factAt_1 : decode cX4_factAt 1 = .ok (.ifCond .lt 9, 3) := by decide +kernel
theorem dX4_factAt_4 : decode cX4_factAt 4 = .ok (.iload_n 1, 1) := by decide +kernel
theorem dX4_factAt_5 : decode cX4_factAt 5 = .ok (.aload_n 0, 1) := by decide +kernel
theorem dX4_factAt_6 : decode cX4_factAt 6 = .ok (.arraylength, 1) := by decide +kernel
theorem dX4_factAt_7 : decode cX4_factAt 7 = .ok (.if_icmp .lt 7, 3) := by decide +kernel
theorem dX4_factAt_10 : decode cX4_factAt 10 = .ok (.iconst 0, 1) := by decide +kernel
theorem dX4_factAt_11 : decode cX4_factAt 11 = .ok (.goto 6, 3) := by decide +kernel
theorem dX4_factAt_14 : decode cX4_factAt 14 = .ok (.aload_n 0, 1) := by decide +kernel
theorem dX4_factAt_15 : decode cX4_factAt 15 = .ok (.iload_n 1, 1) := by decide +kernel
theorem dX4_factAt_16 : decode cX4_factAt 16 = .ok (.iaload, 1) := by decide +kernel
theorem dX4_factAt_17 : decode cX4_factAt 17 = .ok (.ireturn, 1) := by decide +kernel
def f_X4_factAt_10 (w0 n0 : Nat) (S : Hp) : Option (Int32 × Hp) :=
  some ((0 : Int32), S)
set_option maxHeartbeats 4000000 in
set_option maxRecDepth 100000 in
theorem w_X4_factAt_10 {p : Program} {l : Launch} {e : Env} {s : State} {m : MethodId} {args : Array Value} {below : List Frame} {meth : Method} {c : Code} {E : Ev} {S0 : Hp} {r : (Int32 × Hp)} (C : ho_I p s m args meth c RX4 cX4_factAt 2 (some .int)) (w0 n0 : Nat) (hw0 : w0 ∈ yH.1 ∧ yH.2.1 w0 = (4, n0)) :
    ∀ (S : Hp), f_X4_factAt_10 w0 n0 S = some r → ho_G p l e s m args below meth c yH E S0 0 2 (some (.int r.1), r.2) 10 [] [] S := by
  intro S h H locs ls hR hl
  unfold f_X4_factAt_10 at h
  refine lv_iconst (v := (0 : Int32)) C.1 C.2.1 dX4_factAt_10 (by decide) ?_
  refine lv_goto (tgt := 17) C.1 C.2.1 dX4_factAt_11 (by decide) ?_
  exact ho_iret C hR h dX4_factAt_17
def f_X4_factAt (w0 : Nat) (n0 : Nat) (x1 : Int32) (S : Hp) : Option (Int32 × Hp) :=
  if x1 < 0 then f_X4_factAt_10 w0 n0 S else if x1 < (Int32.ofNat n0) then ldI S w0 n0 x1 (fun v1 => some (v1, S)) else f_X4_factAt_10 w0 n0 S
set_option maxHeartbeats 4000000 in
set_option maxRecDepth 100000 in
theorem c_X4_factAt (l : Launch) (E : Ev) (w0 : Nat) (n0 : Nat) (x1 : Int32) (hw0 : w0 ∈ yH.1 ∧ yH.2.1 w0 = (4, n0)) (S : Hp) (r : (Int32 × Hp)) (h : f_X4_factAt w0 n0 x1 S = some r) : ho_M l yH E yX4_factAt cX4_factAt 2 (some .int) 0 [.ref (E.2.1 w0), .int x1] S (some (.int r.1), r.2) := by
  refine ho_in (by decide) (Nat.le_of_ble_eq_true rfl) ?_
  intro p e s m args below meth c C hR ls hl
  have C : ho_I p s m args meth c RX4 cX4_factAt 2 (some .int) := C
  have hl : lv_has ls 2 [(0, .ref (E.2.1 w0)), (1, .int x1)] := hl
  unfold f_X4_factAt at h
  refine lv_iload_n C.1 C.2.1 dX4_factAt_0 rfl (lv_at hl 1 rfl) ?_
  refine lv_if_lt (tgt := 10) C.1 C.2.1 dX4_factAt_1 (by decide) (fun hc => ?_) (fun hc => ?_)
  · replace h := if_t h hc
    exact w_X4_factAt_10 C w0 n0 hw0 S h _ _ _ hR (lv_sub hl [] rfl)
  · replace h := if_f h hc
    refine lv_iload_n C.1 C.2.1 dX4_factAt_4 rfl (lv_at hl 1 rfl) ?_
    refine lv_aload_n C.1 C.2.1 dX4_factAt_5 rfl (lv_at hl 0 rfl) ?_
    refine ho_alen (by decide) C hR hw0 dX4_factAt_6 ?_
    refine lv_icmp_lt (tgt := 14) C.1 C.2.1 dX4_factAt_7 (by decide) (fun hc => ?_) (fun hc => ?_)
    · replace h := if_t h hc
      refine lv_aload_n C.1 C.2.1 dX4_factAt_14 rfl (lv_at hl 0 rfl) ?_
      refine lv_iload_n C.1 C.2.1 dX4_factAt_15 rfl (lv_at hl 1 rfl) ?_
      obtain ⟨v1, e1, hi1, h⟩ := ldI_ok h
      refine hr_ild C hR hw0 hi1 e1 dX4_factAt_16 ?_
      exact ho_iret C hR h dX4_factAt_17
    · replace h := if_f h hc
      exact w_X4_factAt_10 C w0 n0 hw0 S h _ _ _ hR (lv_sub hl [] rfl)
theorem dX4_single_0 : decode cX4_single 0 = .ok (.iload_n 0, 1) := by decide +kernel
theorem dX4_single_1 : decode cX4_single 1 = .ok (.sipush 10111, 3) := by decide +kernel
theorem dX4_single_4 : decode cX4_single 4 = .ok (.if_icmp .ne 13, 3) := by decide +kernel
theorem dX4_single_7 : decode cX4_single 7 = .ok (.iload_n 1, 1) := by decide +kernel
theorem dX4_single_8 : decode cX4_single 8 = .ok (.ifCond .ne 7, 3) := by decide +kernel
theorem dX4_single_11 : decode cX4_single 11 = .ok (.iconst 1, 1) := by decide +kernel
theorem dX4_single_12 : decode cX4_single 12 = .ok (.goto 4, 3) := by decide +kernel
theorem dX4_single_15 : decode cX4_single 15 = .ok (.iconst 0, 1) := by decide +kernel
theorem dX4_single_16 : decode cX4_single 16 = .ok (.ireturn, 1) := by decide +kernel
theorem dX4_single_17 : decode cX4_single 17 = .ok (.iload_n 1, 1) := by decide +kernel
theorem dX4_single_18 : decode cX4_single 18 = .ok (.ifCond .lt 8, 3) := by decide +kernel
theorem dX4_single_21 : decode cX4_single 21 = .ok (.iload_n 1, 1) := by decide +kernel
theorem dX4_single_22 : decode cX4_single 22 = .ok (.iconst 5, 1) := by decide +kernel
theorem dX4_single_23 : decode cX4_single 23 = .ok (.if_icmp .lt 7, 3) := by decide +kernel
theorem dX4_single_26 : decode cX4_single 26 = .ok (.iconst 0, 1) := by decide +kernel
theorem dX4_single_27 : decode cX4_single 27 = .ok (.goto 11, 3) := by decide +kernel
theorem dX4_single_30 : decode cX4_single 30 = .ok (.aload_n 2, 1) := by decide +kernel
theorem dX4_single_31 : decode cX4_single 31 = .ok (.bipush 35, 2) := by decide +kernel
theorem dX4_single_33 : decode cX4_single 33 = .ok (.iload_n 1, 1) := by decide +kernel
theorem dX4_single_34 : decode cX4_single 34 = .ok (.iadd, 1) := by decide +kernel
theorem dX4_single_35 : decode cX4_single 35 = .ok (.invokestatic 24, 3) := by decide +kernel
theorem dX4_single_38 : decode cX4_single 38 = .ok (.ireturn, 1) := by decide +kernel
def f_X4_single_26 (w2 n2 : Nat) (S : Hp) : Option (Int32 × Hp) :=
  some ((0 : Int32), S)
set_option maxHeartbeats 4000000 in
set_option maxRecDepth 100000 in
theorem w_X4_single_26 {p : Program} {l : Launch} {e : Env} {s : State} {m : MethodId} {args : Array Value} {below : List Frame} {meth : Method} {c : Code} {E : Ev} {S0 : Hp} {r : (Int32 × Hp)} (C : ho_I p s m args meth c RX4 cX4_single 3 (some .int)) (w2 n2 : Nat) (hw2 : w2 ∈ yH.1 ∧ yH.2.1 w2 = (4, n2)) :
    ∀ (S : Hp), f_X4_single_26 w2 n2 S = some r → ho_G p l e s m args below meth c yH E S0 1 3 (some (.int r.1), r.2) 26 [] [] S := by
  intro S h H locs ls hR hl
  unfold f_X4_single_26 at h
  refine lv_iconst (v := (0 : Int32)) C.1 C.2.1 dX4_single_26 (by decide) ?_
  refine lv_goto (tgt := 38) C.1 C.2.1 dX4_single_27 (by decide) ?_
  exact ho_iret C hR h dX4_single_38
def f_X4_single (x0 : Int32) (x1 : Int32) (w2 : Nat) (n2 : Nat) (S : Hp) : Option (Int32 × Hp) :=
  if x0 = (10111 : Int32) then if x1 = 0 then some ((1 : Int32), S) else some ((0 : Int32), S) else if x1 < 0 then f_X4_single_26 w2 n2 S else if x1 < (5 : Int32) then ob2 (f_X4_factAt w2 n2 ((35 : Int32) + x1) S) (fun r1 S1 => some (r1, S1)) else f_X4_single_26 w2 n2 S
set_option maxHeartbeats 4000000 in
set_option maxRecDepth 100000 in
theorem c_X4_single (l : Launch) (E : Ev) (x0 : Int32) (x1 : Int32) (w2 : Nat) (n2 : Nat) (hw2 : w2 ∈ yH.1 ∧ yH.2.1 w2 = (4, n2)) (S : Hp) (r : (Int32 × Hp)) (h : f_X4_single x0 x1 w2 n2 S = some r) : ho_M l yH E yX4_single cX4_single 3 (some .int) 1 [.int x0, .int x1, .ref (E.2.1 w2)] S (some (.int r.1), r.2) := by
  refine ho_in (by decide) (Nat.le_of_ble_eq_true rfl) ?_
  intro p e s m args below meth c C hR ls hl
  have C : ho_I p s m args meth c RX4 cX4_single 3 (some .int) := C
  have hl : lv_has ls 3 [(0, .int x0), (1, .int x1), (2, .ref (E.2.1 w2))] := hl
  unfold f_X4_single at h
  refine lv_iload_n C.1 C.2.1 dX4_single_0 rfl (lv_at hl 0 rfl) ?_
  refine lv_sipush (v := (10111 : Int32)) C.1 C.2.1 dX4_single_1 (by decide) ?_
  refine lv_icmp_ne (tgt := 17) C.1 C.2.1 dX4_single_4 (by decide) (fun hc => ?_) (fun hc => ?_)
  · replace h := if_f h hc
    refine lv_iload_n C.1 C.2.1 dX4_single_17 rfl (lv_at hl 1 rfl) ?_
    refine lv_if_lt (tgt := 26) C.1 C.2.1 dX4_single_18 (by decide) (fun hc => ?_) (fun hc => ?_)
    · replace h := if_t h hc
      exact w_X4_single_26 C w2 n2 hw2 S h _ _ _ hR (lv_sub hl [] rfl)
    · replace h := if_f h hc
      refine lv_iload_n C.1 C.2.1 dX4_single_21 rfl (lv_at hl 1 rfl) ?_
      refine lv_iconst (v := (5 : Int32)) C.1 C.2.1 dX4_single_22 (by decide) ?_
      refine lv_icmp_lt (tgt := 30) C.1 C.2.1 dX4_single_23 (by decide) (fun hc => ?_) (fun hc => ?_)
      · replace h := if_t h hc
        refine lv_aload_n C.1 C.2.1 dX4_single_30 rfl (lv_at hl 2 rfl) ?_
        refine lv_bipush (v := (35 : Int32)) C.1 C.2.1 dX4_single_31 (by decide) ?_
        refine lv_iload_n C.1 C.2.1 dX4_single_33 rfl (lv_at hl 1 rfl) ?_
        refine lv_iadd C.1 C.2.1 dX4_single_34 ?_
        obtain ⟨r1, S1, h1, h⟩ := ob2_ok h
        refine hr_Si (v := r1) (S' := S1) (As := [.ref (E.2.1 w2), .int ((35 : Int32) + x1)]) (rest := []) C (c_X4_factAt l E w2 n2 ((35 : Int32) + x1) hw2 _ _ h1) ys_X4_factAt lk_RX4_24 rfl rfl hl.1 (Nat.le_of_ble_eq_true rfl) (by decide) (by decide) hR (ho_A hR) dX4_single_35 (fun H locs hR => ?_)
        exact ho_iret C hR h dX4_single_38
      · replace h := if_f h hc
        exact w_X4_single_26 C w2 n2 hw2 S h _ _ _ hR (lv_sub hl [] rfl)
  · replace h := if_t h hc
    refine lv_iload_n C.1 C.2.1 dX4_single_7 rfl (lv_at hl 1 rfl) ?_
    refine lv_if_ne (tgt := 15) C.1 C.2.1 dX4_single_8 (by decide) (fun hc => ?_) (fun hc => ?_)
    · replace h := if_f h hc
      refine lv_iconst (v := (0 : Int32)) C.1 C.2.1 dX4_single_15 (by decide) ?_
      exact ho_iret C hR h dX4_single_16
    · replace h := if_t h hc
      refine lv_iconst (v := (1 : Int32)) C.1 C.2.1 dX4_single_11 (by decide) ?_
      refine lv_goto (tgt := 16) C.1 C.2.1 dX4_single_12 (by decide) ?_
      exact ho_iret C hR h dX4_single_16
theorem dJ9_floorDiv_f86c9_0 : decode cJ9_floorDiv_f86c9 0 = .ok (.lload_n 0, 1) := by decide +kernel
theorem dJ9_floorDiv_f86c9_1 : decode cJ9_floorDiv_f86c9 1 = .ok (.lload_n 2, 1) := by decide +kernel
theorem dJ9_floorDiv_f86c9_2 : decode cJ9_floorDiv_f86c9 2 = .ok (.ldiv, 1) := by decide +kernel
theorem dJ9_floorDiv_f86c9_3 : decode cJ9_floorDiv_f86c9 3 = .ok (.lstore 4, 2) := by decide +kernel
theorem dJ9_floorDiv_f86c9_5 : decode cJ9_floorDiv_f86c9 5 = .ok (.lload_n 0, 1) := by decide +kernel
theorem dJ9_floorDiv_f86c9_6 : decode cJ9_floorDiv_f86c9 6 = .ok (.lload_n 2, 1) := by decide +kernel
theorem dJ9_floorDiv_f86c9_7 : decode cJ9_floorDiv_f86c9 7 = .ok (.lxor, 1) := by decide +kernel
theorem dJ9_floorDiv_f86c9_8 : decode cJ9_floorDiv_f86c9 8 = .ok (.lconst 0, 1) := by decide +kernel
theorem dJ9_floorDiv_f86c9_9 : decode cJ9_floorDiv_f86c9 9 = .ok (.lcmp, 1) := by decide +kernel
theorem dJ9_floorDiv_f86c9_10 : decode cJ9_floorDiv_f86c9 10 = .ok (.ifCond .ge 17, 3) := by decide +kernel
theorem dJ9_floorDiv_f86c9_13 : decode cJ9_floorDiv_f86c9 13 = .ok (.lload 4, 2) := by decide +kernel
theorem dJ9_floorDiv_f86c9_15 : decode cJ9_floorDiv_f86c9 15 = .ok (.lload_n 2, 1) := by decide +kernel
theorem dJ9_floorDiv_f86c9_16 : decode cJ9_floorDiv_f86c9 16 = .ok (.lmul, 1) := by decide +kernel
theorem dJ9_floorDiv_f86c9_17 : decode cJ9_floorDiv_f86c9 17 = .ok (.lload_n 0, 1) := by decide +kernel
theorem dJ9_floorDiv_f86c9_18 : decode cJ9_floorDiv_f86c9 18 = .ok (.lcmp, 1) := by decide +kernel
theorem dJ9_floorDiv_f86c9_19 : decode cJ9_floorDiv_f86c9 19 = .ok (.ifCond .eq 8, 3) := by decide +kernel
theorem dJ9_floorDiv_f86c9_22 : decode cJ9_floorDiv_f86c9 22 = .ok (.lload 4, 2) := by decide +kernel
theorem dJ9_floorDiv_f86c9_24 : decode cJ9_floorDiv_f86c9 24 = .ok (.lconst 1, 1) := by decide +kernel
theorem dJ9_floorDiv_f86c9_25 : decode cJ9_floorDiv_f86c9 25 = .ok (.lsub, 1) := by decide +kernel
theorem dJ9_floorDiv_f86c9_26 : decode cJ9_floorDiv_f86c9 26 = .ok (.lreturn, 1) := by decide +kernel
theorem dJ9_floorDiv_f86c9_27 : decode cJ9_floorDiv_f86c9 27 = .ok (.lload 4, 2) := by decide +kernel
theorem dJ9_floorDiv_f86c9_29 : decode cJ9_floorDiv_f86c9 29 = .ok (.lreturn, 1) := by decide +kernel
def f_J9_floorDiv_f86c9 (x0 : Int64) (x2 : Int64) (S : Hp) : Option (Int64 × Hp) :=
  nzl x2 (le1 (x0 / x2) (fun v2 => if 0 ≤ (lg_cmp (x0 ^^^ x2) (0 : Int64)) then some (v2, S) else if (lg_cmp (v2 * x2) x0) = 0 then some (v2, S) else some ((v2 - (1 : Int64)), S)))
set_option maxHeartbeats 4000000 in
set_option maxRecDepth 100000 in
theorem c_J9_floorDiv_f86c9 (l : Launch) (E : Ev) (x0 : Int64) (x2 : Int64) (S : Hp) (r : (Int64 × Hp)) (h : f_J9_floorDiv_f86c9 x0 x2 S = some r) : ho_M l yH E yJ9_floorDiv_f86c9 cJ9_floorDiv_f86c9 6 (some .long) 0 [.long x0, .long x2] S (some (.long r.1), r.2) := by
  refine ho_inF plF_J9_floorDiv_f86c9 (Nat.le_of_ble_eq_true rfl) ?_
  intro p e s m args below meth c C hR ls hl
  have C : ho_I p s m args meth c RJ9 cJ9_floorDiv_f86c9 6 (some .long) := C
  have hl : lv_has ls 6 [(0, .long x0), (2, .long x2)] := hl
  unfold f_J9_floorDiv_f86c9 at h
  refine lv_lload_n C.1 C.2.1 dJ9_floorDiv_f86c9_0 rfl (lv_at hl 0 rfl) ?_
  refine lv_lload_n C.1 C.2.1 dJ9_floorDiv_f86c9_1 rfl (lv_at hl 1 rfl) ?_
  obtain ⟨hz1, h⟩ := nzl_ok h
  refine lv_ldiv C.1 C.2.1 dJ9_floorDiv_f86c9_2 hz1 ?_
  refine lv_topl (fun v2 e2 => ?_)
  replace h := le1_at e2 h
  refine lv_lstore (lv' := [(4, .long v2), (0, .long x0), (2, .long x2)]) C.1 C.2.1 dJ9_floorDiv_f86c9_3 hl (by decide) rfl (fun ls hl => ?_)
  refine lv_lload_n C.1 C.2.1 dJ9_floorDiv_f86c9_5 rfl (lv_at hl 1 rfl) ?_
  refine lv_lload_n C.1 C.2.1 dJ9_floorDiv_f86c9_6 rfl (lv_at hl 2 rfl) ?_
  refine lv_lxor C.1 C.2.1 dJ9_floorDiv_f86c9_7 ?_
  refine lv_lconst (v := (0 : Int64)) C.1 C.2.1 dJ9_floorDiv_f86c9_8 (by decide) ?_
  refine W.lcmp C.1 C.2.1 dJ9_floorDiv_f86c9_9 ?_
  refine lv_if_ge (tgt := 27) C.1 C.2.1 dJ9_floorDiv_f86c9_10 (by decide) (fun hc => ?_) (fun hc => ?_)
  · replace h := if_t h hc
    refine lv_lload C.1 C.2.1 dJ9_floorDiv_f86c9_27 (lv_at hl 0 rfl) ?_
    exact ho_lret C hR h dJ9_floorDiv_f86c9_29
  · replace h := if_f h hc
    refine lv_lload C.1 C.2.1 dJ9_floorDiv_f86c9_13 (lv_at hl 0 rfl) ?_
    refine lv_lload_n C.1 C.2.1 dJ9_floorDiv_f86c9_15 rfl (lv_at hl 2 rfl) ?_
    refine lv_lmul C.1 C.2.1 dJ9_floorDiv_f86c9_16 ?_
    refine lv_lload_n C.1 C.2.1 dJ9_floorDiv_f86c9_17 rfl (lv_at hl 1 rfl) ?_
    refine W.lcmp C.1 C.2.1 dJ9_floorDiv_f86c9_18 ?_
    refine lv_if_eq (tgt := 27) C.1 C.2.1 dJ9_floorDiv_f86c9_19 (by decide) (fun hc => ?_) (fun hc => ?_)
    · replace h := if_t h hc
      refine lv_lload C.1 C.2.1 dJ9_floorDiv_f86c9_27 (lv_at hl 0 rfl) ?_
      exact ho_lret C hR h dJ9_floorDiv_f86c9_29
    · replace h := if_f h hc
      refine lv_lload C.1 C.2.1 dJ9_floorDiv_f86c9_22 (lv_at hl 0 rfl) ?_
      refine lv_lconst (v := (1 : Int64)) C.1 C.2.1 dJ9_floorDiv_f86c9_24 (by decide) ?_
      refine lv_lsub C.1 C.2.1 dJ9_floorDiv_f86c9_25 ?_
      exact ho_lret C hR h dJ9_floorDiv_f86c9_26
theorem dJ9_min_f86c9_0 : decode cJ9_min_f86c9 0 = .ok (.lload_n 0, 1) := by decide +kernel
theorem dJ9_min_f86c9_1 : decode cJ9_min_f86c9 1 = .ok (.lload_n 2, 1) := by decide +kernel
theorem dJ9_min_f86c9_2 : decode cJ9_min_f86c9 2 = .ok (.lcmp, 1) := by decide +kernel
theorem dJ9_min_f86c9_3 : decode cJ9_min_f86c9 3 = .ok (.ifCond .gt 7, 3) := by decide +kernel
theorem dJ9_min_f86c9_6 : decode cJ9_min_f86c9 6 = .ok (.lload_n 0, 1) := by decide +kernel
theorem dJ9_min_f86c9_7 : decode cJ9_min_f86c9 7 = .ok (.goto 4, 3) := by decide +kernel
theorem dJ9_min_f86c9_10 : decode cJ9_min_f86c9 10 = .ok (.lload_n 2, 1) := by decide +kernel
theorem dJ9_min_f86c9_11 : decode cJ9_min_f86c9 11 = .ok (.lreturn, 1) := by decide +kernel
def f_J9_min_f86c9 (x0 : Int64) (x2 : Int64) (S : Hp) : Option (Int64 × Hp) :=
  if 0 < (lg_cmp x0 x2) then some (x2, S) else some (x0, S)
set_option maxHeartbeats 4000000 in
set_option maxRecDepth 100000 in
theorem c_J9_min_f86c9 (l : Launch) (E : Ev) (x0 : Int64) (x2 : Int64) (S : Hp) (r : (Int64 × Hp)) (h : f_J9_min_f86c9 x0 x2 S = some r) : ho_M l yH E yJ9_min_f86c9 cJ9_min_f86c9 4 (some .long) 0 [.long x0, .long x2] S (some (.long r.1), r.2) := by
  refine ho_inF plF_J9_min_f86c9 (Nat.le_of_ble_eq_true rfl) ?_
  intro p e s m args below meth c C hR ls hl
  have C : ho_I p s m args meth c RJ9 cJ9_min_f86c9 4 (some .long) := C
  have hl : lv_has ls 4 [(0, .long x0), (2, .long x2)] := hl
  unfold f_J9_min_f86c9 at h
  refine lv_lload_n C.1 C.2.1 dJ9_min_f86c9_0 rfl (lv_at hl 0 rfl) ?_
  refine lv_lload_n C.1 C.2.1 dJ9_min_f86c9_1 rfl (lv_at hl 1 rfl) ?_
  refine W.lcmp C.1 C.2.1 dJ9_min_f86c9_2 ?_
  refine lv_if_gt (tgt := 10) C.1 C.2.1 dJ9_min_f86c9_3 (by decide) (fun hc => ?_) (fun hc => ?_)
  · replace h := if_t h hc
    refine lv_lload_n C.1 C.2.1 dJ9_min_f86c9_10 rfl (lv_at hl 1 rfl) ?_
    exact ho_lret C hR h dJ9_min_f86c9_11
  · replace h := if_f h hc
    refine lv_lload_n C.1 C.2.1 dJ9_min_f86c9_6 rfl (lv_at hl 0 rfl) ?_
    refine lv_goto (tgt := 11) C.1 C.2.1 dJ9_min_f86c9_7 (by decide) ?_
    exact ho_lret C hR h dJ9_min_f86c9_11
theorem dJ9_max_f86c9_0 : decode cJ9_max_f86c9 0 = .ok (.lload_n 0, 1) := by decide +kernel
theorem dJ9_max_f86c9_1 : decode cJ9_max_f86c9 1 = .ok (.lload_n 2, 1) := by decide +kernel
theorem dJ9_max_f86c9_2 : decode cJ9_max_f86c9 2 = .ok (.lcmp, 1) := by decide +kernel
theorem dJ9_max_f86c9_3 : decode cJ9_max_f86c9 3 = .ok (.ifCond .lt 7, 3) := by decide +kernel
theorem dJ9_max_f86c9_6 : decode cJ9_max_f86c9 6 = .ok (.lload_n 0, 1) := by decide +kernel
theorem dJ9_max_f86c9_7 : decode cJ9_max_f86c9 7 = .ok (.goto 4, 3) := by decide +kernel
theorem dJ9_max_f86c9_10 : decode cJ9_max_f86c9 10 = .ok (.lload_n 2, 1) := by decide +kernel
theorem dJ9_max_f86c9_11 : decode cJ9_max_f86c9 11 = .ok (.lreturn, 1) := by decide +kernel
def f_J9_max_f86c9 (x0 : Int64) (x2 : Int64) (S : Hp) : Option (Int64 × Hp) :=
  if (lg_cmp x0 x2) < 0 then some (x2, S) else some (x0, S)
set_option maxHeartbeats 4000000 in
set_option maxRecDepth 100000 in
theorem c_J9_max_f86c9 (l : Launch) (E : Ev) (x0 : Int64) (x2 : Int64) (S : Hp) (r : (Int64 × Hp)) (h : f_J9_max_f86c9 x0 x2 S = some r) : ho_M l yH E yJ9_max_f86c9 cJ9_max_f86c9 4 (some .long) 0 [.long x0, .long x2] S (some (.long r.1), r.2) := by
  refine ho_inF plF_J9_max_f86c9 (Nat.le_of_ble_eq_true rfl) ?_
  intro p e s m args below meth c C hR ls hl
  have C : ho_I p s m args meth c RJ9 cJ9_max_f86c9 4 (some .long) := C
  have hl : lv_has ls 4 [(0, .long x0), (2, .long x2)] := hl
  unfold f_J9_max_f86c9 at h
  refine lv_lload_n C.1 C.2.1 dJ9_max_f86c9_0 rfl (lv_at hl 0 rfl) ?_
  refine lv_lload_n C.1 C.2.1 dJ9_max_f86c9_1 rfl (lv_at hl 1 rfl) ?_
  refine W.lcmp C.1 C.2.1 dJ9_max_f86c9_2 ?_
  refine lv_if_lt (tgt := 10) C.1 C.2.1 dJ9_max_f86c9_3 (by decide) (fun hc => ?_) (fun hc => ?_)
  · replace h := if_t h hc
    refine lv_lload_n C.1 C.2.1 dJ9_max_f86c9_10 rfl (lv_at hl 1 rfl) ?_
    exact ho_lret C hR h dJ9_max_f86c9_11
  · replace h := if_f h hc
    refine lv_lload_n C.1 C.2.1 dJ9_max_f86c9_6 rfl (lv_at hl 0 rfl) ?_
    refine lv_goto (tgt := 11) C.1 C.2.1 dJ9_max_f86c9_7 (by decide) ?_
    exact ho_lret C hR h dJ9_max_f86c9_11
theorem dX4_joined_0 : decode cX4_joined 0 = .ok (.iload_n 0, 1) := by decide +kernel
theorem dX4_joined_1 : decode cX4_joined 1 = .ok (.tableswitch 127 10100 10109 #[55, 59, 63, 67, 83, 89, 95, 99, 103, 115], 55) := by decide +kernel
theorem dX4_joined_56 : decode cX4_joined 56 = .ok (.lload_n 1, 1) := by decide +kernel
theorem dX4_joined_57 : decode cX4_joined 57 = .ok (.lload_n 3, 1) := by decide +kernel
theorem dX4_joined_58 : decode cX4_joined 58 = .ok (.ladd, 1) := by decide +kernel
theorem dX4_joined_59 : decode cX4_joined 59 = .ok (.lreturn, 1) := by decide +kernel
theorem dX4_joined_60 : decode cX4_joined 60 = .ok (.lload_n 1, 1) := by decide +kernel
theorem dX4_joined_61 : decode cX4_joined 61 = .ok (.lload_n 3, 1) := by decide +kernel
theorem dX4_joined_62 : decode cX4_joined 62 = .ok (.lsub, 1) := by decide +kernel
theorem dX4_joined_63 : decode cX4_joined 63 = .ok (.lreturn, 1) := by decide +kernel
theorem dX4_joined_64 : decode cX4_joined 64 = .ok (.lload_n 1, 1) := by decide +kernel
theorem dX4_joined_65 : decode cX4_joined 65 = .ok (.lload_n 3, 1) := by decide +kernel
theorem dX4_joined_66 : decode cX4_joined 66 = .ok (.lmul, 1) := by decide +kernel
theorem dX4_joined_67 : decode cX4_joined 67 = .ok (.lreturn, 1) := by decide +kernel
theorem dX4_joined_68 : decode cX4_joined 68 = .ok (.lload_n 3, 1) := by decide +kernel
theorem dX4_joined_69 : decode cX4_joined 69 = .ok (.lconst 0, 1) := by decide +kernel
theorem dX4_joined_70 : decode cX4_joined 70 = .ok (.lcmp, 1) := by decide +kernel
theorem dX4_joined_71 : decode cX4_joined 71 = .ok (.ifCond .ne 7, 3) := by decide +kernel
theorem dX4_joined_74 : decode cX4_joined 74 = .ok (.lconst 0, 1) := by decide +kernel
theorem dX4_joined_75 : decode cX4_joined 75 = .ok (.goto 8, 3) := by decide +kernel
theorem dX4_joined_78 : decode cX4_joined 78 = .ok (.lload_n 1, 1) := by decide +kernel
theorem dX4_joined_79 : decode cX4_joined 79 = .ok (.lload_n 3, 1) := by decide +kernel
theorem dX4_joined_80 : decode cX4_joined 80 = .ok (.invokestatic 40, 3) := by decide +kernel
theorem dX4_joined_83 : decode cX4_joined 83 = .ok (.lreturn, 1) := by decide +kernel
theorem dX4_joined_84 : decode cX4_joined 84 = .ok (.lload_n 1, 1) := by decide +kernel
theorem dX4_joined_85 : decode cX4_joined 85 = .ok (.lload_n 3, 1) := by decide +kernel
theorem dX4_joined_86 : decode cX4_joined 86 = .ok (.invokestatic 46, 3) := by decide +kernel
theorem dX4_joined_89 : decode cX4_joined 89 = .ok (.lreturn, 1) := by decide +kernel
theorem dX4_joined_90 : decode cX4_joined 90 = .ok (.lload_n 1, 1) := by decide +kernel
theorem dX4_joined_91 : decode cX4_joined 91 = .ok (.lload_n 3, 1) := by decide +kernel
theorem dX4_joined_92 : decode cX4_joined 92 = .ok (.invokestatic 49, 3) := by decide +kernel
theorem dX4_joined_95 : decode cX4_joined 95 = .ok (.lreturn, 1) := by decide +kernel
theorem dX4_joined_96 : decode cX4_joined 96 = .ok (.lload_n 1, 1) := by decide +kernel
theorem dX4_joined_97 : decode cX4_joined 97 = .ok (.lload_n 3, 1) := by decide +kernel
theorem dX4_joined_98 : decode cX4_joined 98 = .ok (.land, 1) := by decide +kernel
theorem dX4_joined_99 : decode cX4_joined 99 = .ok (.lreturn, 1) := by decide +kernel
theorem dX4_joined_100 : decode cX4_joined 100 = .ok (.lload_n 1, 1) := by decide +kernel
theorem dX4_joined_101 : decode cX4_joined 101 = .ok (.lload_n 3, 1) := by decide +kernel
theorem dX4_joined_102 : decode cX4_joined 102 = .ok (.lor, 1) := by decide +kernel
theorem dX4_joined_103 : decode cX4_joined 103 = .ok (.lreturn, 1) := by decide +kernel
theorem dX4_joined_104 : decode cX4_joined 104 = .ok (.lload_n 1, 1) := by decide +kernel
theorem dX4_joined_105 : decode cX4_joined 105 = .ok (.lload_n 3, 1) := by decide +kernel
theorem dX4_joined_106 : decode cX4_joined 106 = .ok (.lcmp, 1) := by decide +kernel
theorem dX4_joined_107 : decode cX4_joined 107 = .ok (.ifCond .ge 7, 3) := by decide +kernel
theorem dX4_joined_110 : decode cX4_joined 110 = .ok (.lconst 1, 1) := by decide +kernel
theorem dX4_joined_111 : decode cX4_joined 111 = .ok (.goto 4, 3) := by decide +kernel
theorem dX4_joined_114 : decode cX4_joined 114 = .ok (.lconst 0, 1) := by decide +kernel
theorem dX4_joined_115 : decode cX4_joined 115 = .ok (.lreturn, 1) := by decide +kernel
theorem dX4_joined_116 : decode cX4_joined 116 = .ok (.lload_n 1, 1) := by decide +kernel
theorem dX4_joined_117 : decode cX4_joined 117 = .ok (.lload_n 3, 1) := by decide +kernel
theorem dX4_joined_118 : decode cX4_joined 118 = .ok (.lcmp, 1) := by decide +kernel
theorem dX4_joined_119 : decode cX4_joined 119 = .ok (.ifCond .le 7, 3) := by decide +kernel
theorem dX4_joined_122 : decode cX4_joined 122 = .ok (.lconst 1, 1) := by decide +kernel
theorem dX4_joined_123 : decode cX4_joined 123 = .ok (.goto 4, 3) := by decide +kernel
theorem dX4_joined_126 : decode cX4_joined 126 = .ok (.lconst 0, 1) := by decide +kernel
theorem dX4_joined_127 : decode cX4_joined 127 = .ok (.lreturn, 1) := by decide +kernel
theorem dX4_joined_128 : decode cX4_joined 128 = .ok (.lload_n 1, 1) := by decide +kernel
theorem dX4_joined_129 : decode cX4_joined 129 = .ok (.lload_n 3, 1) := by decide +kernel
theorem dX4_joined_130 : decode cX4_joined 130 = .ok (.lcmp, 1) := by decide +kernel
theorem dX4_joined_131 : decode cX4_joined 131 = .ok (.ifCond .ne 7, 3) := by decide +kernel
theorem dX4_joined_134 : decode cX4_joined 134 = .ok (.lconst 1, 1) := by decide +kernel
theorem dX4_joined_135 : decode cX4_joined 135 = .ok (.goto 4, 3) := by decide +kernel
theorem dX4_joined_138 : decode cX4_joined 138 = .ok (.lconst 0, 1) := by decide +kernel
theorem dX4_joined_139 : decode cX4_joined 139 = .ok (.lreturn, 1) := by decide +kernel
def f_X4_joined (x0 : Int32) (x1 : Int64) (x3 : Int64) (S : Hp) : Option (Int64 × Hp) :=
  if x0 = (10100 : Int32) then some ((x1 + x3), S) else if x0 = (10101 : Int32) then some ((x1 - x3), S) else if x0 = (10102 : Int32) then some ((x1 * x3), S) else if x0 = (10103 : Int32) then if (lg_cmp x3 (0 : Int64)) = 0 then some ((0 : Int64), S) else ob2 (f_J9_floorDiv_f86c9 x1 x3 S) (fun r1 S1 => some (r1, S1)) else if x0 = (10104 : Int32) then ob2 (f_J9_min_f86c9 x1 x3 S) (fun r2 S2 => some (r2, S2)) else if x0 = (10105 : Int32) then ob2 (f_J9_max_f86c9 x1 x3 S) (fun r3 S3 => some (r3, S3)) else if x0 = (10106 : Int32) then some ((x1 &&& x3), S) else if x0 = (10107 : Int32) then some ((x1 ||| x3), S) else if x0 = (10108 : Int32) then if 0 ≤ (lg_cmp x1 x3) then some ((0 : Int64), S) else some ((1 : Int64), S) else if x0 = (10109 : Int32) then if (lg_cmp x1 x3) ≤ 0 then some ((0 : Int64), S) else some ((1 : Int64), S) else if (lg_cmp x1 x3) = 0 then some ((1 : Int64), S) else some ((0 : Int64), S)
set_option maxHeartbeats 4000000 in
set_option maxRecDepth 100000 in
theorem c_X4_joined (l : Launch) (E : Ev) (x0 : Int32) (x1 : Int64) (x3 : Int64) (S : Hp) (r : (Int64 × Hp)) (h : f_X4_joined x0 x1 x3 S = some r) : ho_M l yH E yX4_joined cX4_joined 5 (some .long) 1 [.int x0, .long x1, .long x3] S (some (.long r.1), r.2) := by
  refine ho_in (by decide) (Nat.le_of_ble_eq_true rfl) ?_
  intro p e s m args below meth c C hR ls hl
  have C : ho_I p s m args meth c RX4 cX4_joined 5 (some .long) := C
  have hl : lv_has ls 5 [(0, .int x0), (1, .long x1), (3, .long x3)] := hl
  unfold f_X4_joined at h
  refine lv_iload_n C.1 C.2.1 dX4_joined_0 rfl (lv_at hl 0 rfl) ?_
  by_cases hc0 : x0 = (10100 : Int32)
  · replace h := if_t h hc0
    have hx : (x0).toInt = 10100 := by rw [hc0]; decide
    refine lv_tableIn (off := 55) (tgt := 56) C.1 C.2.1 dX4_joined_1 (by rw [hx]; decide) (by rw [hx]; decide) (by rw [hx]; decide) (by decide) ?_
    refine lv_lload_n C.1 C.2.1 dX4_joined_56 rfl (lv_at hl 1 rfl) ?_
    refine lv_lload_n C.1 C.2.1 dX4_joined_57 rfl (lv_at hl 2 rfl) ?_
    refine lv_ladd C.1 C.2.1 dX4_joined_58 ?_
    exact ho_lret C hR h dX4_joined_59
  · replace h := if_f h hc0
    by_cases hc1 : x0 = (10101 : Int32)
    · replace h := if_t h hc1
      have hx : (x0).toInt = 10101 := by rw [hc1]; decide
      refine lv_tableIn (off := 59) (tgt := 60) C.1 C.2.1 dX4_joined_1 (by rw [hx]; decide) (by rw [hx]; decide) (by rw [hx]; decide) (by decide) ?_
      refine lv_lload_n C.1 C.2.1 dX4_joined_60 rfl (lv_at hl 1 rfl) ?_
      refine lv_lload_n C.1 C.2.1 dX4_joined_61 rfl (lv_at hl 2 rfl) ?_
      refine lv_lsub C.1 C.2.1 dX4_joined_62 ?_
      exact ho_lret C hR h dX4_joined_63
    · replace h := if_f h hc1
      by_cases hc2 : x0 = (10102 : Int32)
      · replace h := if_t h hc2
        have hx : (x0).toInt = 10102 := by rw [hc2]; decide
        refine lv_tableIn (off := 63) (tgt := 64) C.1 C.2.1 dX4_joined_1 (by rw [hx]; decide) (by rw [hx]; decide) (by rw [hx]; decide) (by decide) ?_
        refine lv_lload_n C.1 C.2.1 dX4_joined_64 rfl (lv_at hl 1 rfl) ?_
        refine lv_lload_n C.1 C.2.1 dX4_joined_65 rfl (lv_at hl 2 rfl) ?_
        refine lv_lmul C.1 C.2.1 dX4_joined_66 ?_
        exact ho_lret C hR h dX4_joined_67
      · replace h := if_f h hc2
        by_cases hc3 : x0 = (10103 : Int32)
        · replace h := if_t h hc3
          have hx : (x0).toInt = 10103 := by rw [hc3]; decide
          refine lv_tableIn (off := 67) (tgt := 68) C.1 C.2.1 dX4_joined_1 (by rw [hx]; decide) (by rw [hx]; decide) (by rw [hx]; decide) (by decide) ?_
          refine lv_lload_n C.1 C.2.1 dX4_joined_68 rfl (lv_at hl 2 rfl) ?_
          refine lv_lconst (v := (0 : Int64)) C.1 C.2.1 dX4_joined_69 (by decide) ?_
          refine W.lcmp C.1 C.2.1 dX4_joined_70 ?_
          refine lv_if_ne (tgt := 78) C.1 C.2.1 dX4_joined_71 (by decide) (fun hc => ?_) (fun hc => ?_)
          · replace h := if_f h hc
            refine lv_lload_n C.1 C.2.1 dX4_joined_78 rfl (lv_at hl 1 rfl) ?_
            refine lv_lload_n C.1 C.2.1 dX4_joined_79 rfl (lv_at hl 2 rfl) ?_
            obtain ⟨r1, S1, h1, h⟩ := ob2_ok h
            refine hr_Sl (w := r1) (S' := S1) (As := [.long x1, .long x3]) (rest := []) C (c_J9_floorDiv_f86c9 l E x1 x3 _ _ h1) ys_J9_floorDiv_f86c9 lk_RX4_40 rfl rfl hl.1 (Nat.le_of_ble_eq_true rfl) (by decide) (by decide) hR (ho_A hR) dX4_joined_80 (fun H locs hR => ?_)
            exact ho_lret C hR h dX4_joined_83
          · replace h := if_t h hc
            refine lv_lconst (v := (0 : Int64)) C.1 C.2.1 dX4_joined_74 (by decide) ?_
            refine lv_goto (tgt := 83) C.1 C.2.1 dX4_joined_75 (by decide) ?_
            exact ho_lret C hR h dX4_joined_83
        · replace h := if_f h hc3
          by_cases hc4 : x0 = (10104 : Int32)
          · replace h := if_t h hc4
            have hx : (x0).toInt = 10104 := by rw [hc4]; decide
            refine lv_tableIn (off := 83) (tgt := 84) C.1 C.2.1 dX4_joined_1 (by rw [hx]; decide) (by rw [hx]; decide) (by rw [hx]; decide) (by decide) ?_
            refine lv_lload_n C.1 C.2.1 dX4_joined_84 rfl (lv_at hl 1 rfl) ?_
            refine lv_lload_n C.1 C.2.1 dX4_joined_85 rfl (lv_at hl 2 rfl) ?_
            obtain ⟨r2, S2, h2, h⟩ := ob2_ok h
            refine hr_Sl (w := r2) (S' := S2) (As := [.long x1, .long x3]) (rest := []) C (c_J9_min_f86c9 l E x1 x3 _ _ h2) ys_J9_min_f86c9 lk_RX4_46 rfl rfl hl.1 (Nat.le_of_ble_eq_true rfl) (by decide) (by decide) hR (ho_A hR) dX4_joined_86 (fun H locs hR => ?_)
            exact ho_lret C hR h dX4_joined_89
          · replace h := if_f h hc4
            by_cases hc5 : x0 = (10105 : Int32)
            · replace h := if_t h hc5
              have hx : (x0).toInt = 10105 := by rw [hc5]; decide
              refine lv_tableIn (off := 89) (tgt := 90) C.1 C.2.1 dX4_joined_1 (by rw [hx]; decide) (by rw [hx]; decide) (by rw [hx]; decide) (by decide) ?_
              refine lv_lload_n C.1 C.2.1 dX4_joined_90 rfl (lv_at hl 1 rfl) ?_
              refine lv_lload_n C.1 C.2.1 dX4_joined_91 rfl (lv_at hl 2 rfl) ?_
              obtain ⟨r3, S3, h3, h⟩ := ob2_ok h
              refine hr_Sl (w := r3) (S' := S3) (As := [.long x1, .long x3]) (rest := []) C (c_J9_max_f86c9 l E x1 x3 _ _ h3) ys_J9_max_f86c9 lk_RX4_49 rfl rfl hl.1 (Nat.le_of_ble_eq_true rfl) (by decide) (by decide) hR (ho_A hR) dX4_joined_92 (fun H locs hR => ?_)
              exact ho_lret C hR h dX4_joined_95
            · replace h := if_f h hc5
              by_cases hc6 : x0 = (10106 : Int32)
              · replace h := if_t h hc6
                have hx : (x0).toInt = 10106 := by rw [hc6]; decide
                refine lv_tableIn (off := 95) (tgt := 96) C.1 C.2.1 dX4_joined_1 (by rw [hx]; decide) (by rw [hx]; decide) (by rw [hx]; decide) (by decide) ?_
                refine lv_lload_n C.1 C.2.1 dX4_joined_96 rfl (lv_at hl 1 rfl) ?_
                refine lv_lload_n C.1 C.2.1 dX4_joined_97 rfl (lv_at hl 2 rfl) ?_
                refine lv_land C.1 C.2.1 dX4_joined_98 ?_
                exact ho_lret C hR h dX4_joined_99
              · replace h := if_f h hc6
                by_cases hc7 : x0 = (10107 : Int32)
                · replace h := if_t h hc7
                  have hx : (x0).toInt = 10107 := by rw [hc7]; decide
                  refine lv_tableIn (off := 99) (tgt := 100) C.1 C.2.1 dX4_joined_1 (by rw [hx]; decide) (by rw [hx]; decide) (by rw [hx]; decide) (by decide) ?_
                  refine lv_lload_n C.1 C.2.1 dX4_joined_100 rfl (lv_at hl 1 rfl) ?_
                  refine lv_lload_n C.1 C.2.1 dX4_joined_101 rfl (lv_at hl 2 rfl) ?_
                  refine lv_lor C.1 C.2.1 dX4_joined_102 ?_
                  exact ho_lret C hR h dX4_joined_103
                · replace h := if_f h hc7
                  by_cases hc8 : x0 = (10108 : Int32)
                  · replace h := if_t h hc8
                    have hx : (x0).toInt = 10108 := by rw [hc8]; decide
                    refine lv_tableIn (off := 103) (tgt := 104) C.1 C.2.1 dX4_joined_1 (by rw [hx]; decide) (by rw [hx]; decide) (by rw [hx]; decide) (by decide) ?_
                    refine lv_lload_n C.1 C.2.1 dX4_joined_104 rfl (lv_at hl 1 rfl) ?_
                    refine lv_lload_n C.1 C.2.1 dX4_joined_105 rfl (lv_at hl 2 rfl) ?_
                    refine W.lcmp C.1 C.2.1 dX4_joined_106 ?_
                    refine lv_if_ge (tgt := 114) C.1 C.2.1 dX4_joined_107 (by decide) (fun hc => ?_) (fun hc => ?_)
                    · replace h := if_t h hc
                      refine lv_lconst (v := (0 : Int64)) C.1 C.2.1 dX4_joined_114 (by decide) ?_
                      exact ho_lret C hR h dX4_joined_115
                    · replace h := if_f h hc
                      refine lv_lconst (v := (1 : Int64)) C.1 C.2.1 dX4_joined_110 (by decide) ?_
                      refine lv_goto (tgt := 115) C.1 C.2.1 dX4_joined_111 (by decide) ?_
                      exact ho_lret C hR h dX4_joined_115
                  · replace h := if_f h hc8
                    by_cases hc9 : x0 = (10109 : Int32)
                    · replace h := if_t h hc9
                      have hx : (x0).toInt = 10109 := by rw [hc9]; decide
                      refine lv_tableIn (off := 115) (tgt := 116) C.1 C.2.1 dX4_joined_1 (by rw [hx]; decide) (by rw [hx]; decide) (by rw [hx]; decide) (by decide) ?_
                      refine lv_lload_n C.1 C.2.1 dX4_joined_116 rfl (lv_at hl 1 rfl) ?_
                      refine lv_lload_n C.1 C.2.1 dX4_joined_117 rfl (lv_at hl 2 rfl) ?_
                      refine W.lcmp C.1 C.2.1 dX4_joined_118 ?_
                      refine lv_if_le (tgt := 126) C.1 C.2.1 dX4_joined_119 (by decide) (fun hc => ?_) (fun hc => ?_)
                      · replace h := if_t h hc
                        refine lv_lconst (v := (0 : Int64)) C.1 C.2.1 dX4_joined_126 (by decide) ?_
                        exact ho_lret C hR h dX4_joined_127
                      · replace h := if_f h hc
                        refine lv_lconst (v := (1 : Int64)) C.1 C.2.1 dX4_joined_122 (by decide) ?_
                        refine lv_goto (tgt := 127) C.1 C.2.1 dX4_joined_123 (by decide) ?_
                        exact ho_lret C hR h dX4_joined_127
                    · replace h := if_f h hc9
                      have hx0 := lv_neT hc0 (a := 10100) (by decide)
                      have hx1 := lv_neT hc1 (a := 10101) (by decide)
                      have hx2 := lv_neT hc2 (a := 10102) (by decide)
                      have hx3 := lv_neT hc3 (a := 10103) (by decide)
                      have hx4 := lv_neT hc4 (a := 10104) (by decide)
                      have hx5 := lv_neT hc5 (a := 10105) (by decide)
                      have hx6 := lv_neT hc6 (a := 10106) (by decide)
                      have hx7 := lv_neT hc7 (a := 10107) (by decide)
                      have hx8 := lv_neT hc8 (a := 10108) (by decide)
                      have hx9 := lv_neT hc9 (a := 10109) (by decide)
                      refine lv_tableOut (tgt := 128) C.1 C.2.1 dX4_joined_1 (by omega) (by decide) ?_
                      refine lv_lload_n C.1 C.2.1 dX4_joined_128 rfl (lv_at hl 1 rfl) ?_
                      refine lv_lload_n C.1 C.2.1 dX4_joined_129 rfl (lv_at hl 2 rfl) ?_
                      refine W.lcmp C.1 C.2.1 dX4_joined_130 ?_
                      refine lv_if_ne (tgt := 138) C.1 C.2.1 dX4_joined_131 (by decide) (fun hc => ?_) (fun hc => ?_)
                      · replace h := if_f h hc
                        refine lv_lconst (v := (0 : Int64)) C.1 C.2.1 dX4_joined_138 (by decide) ?_
                        exact ho_lret C hR h dX4_joined_139
                      · replace h := if_t h hc
                        refine lv_lconst (v := (1 : Int64)) C.1 C.2.1 dX4_joined_134 (by decide) ?_
                        refine lv_goto (tgt := 139) C.1 C.2.1 dX4_joined_135 (by decide) ?_
                        exact ho_lret C hR h dX4_joined_139
theorem dX4_bounded_0 : decode cX4_bounded 0 = .ok (.ldc2_w 52, 3) := by decide +kernel
theorem dX4_bounded_3 : decode cX4_bounded 3 = .ok (.ldc2_w 54, 3) := by decide +kernel
theorem dX4_bounded_6 : decode cX4_bounded 6 = .ok (.lload_n 0, 1) := by decide +kernel
theorem dX4_bounded_7 : decode cX4_bounded 7 = .ok (.invokestatic 46, 3) := by decide +kernel
theorem dX4_bounded_10 : decode cX4_bounded 10 = .ok (.invokestatic 49, 3) := by decide +kernel
theorem dX4_bounded_13 : decode cX4_bounded 13 = .ok (.l2i, 1) := by decide +kernel
theorem dX4_bounded_14 : decode cX4_bounded 14 = .ok (.ireturn, 1) := by decide +kernel
def f_X4_bounded (x0 : Int64) (S : Hp) : Option (Int32 × Hp) :=
  ob2 (f_J9_min_f86c9 (1000000 : Int64) x0 S) (fun r1 S1 => ob2 (f_J9_max_f86c9 (-1000000 : Int64) r1 S1) (fun r2 S2 => some ((r2.toInt32), S2)))
set_option maxHeartbeats 4000000 in
set_option maxRecDepth 100000 in
theorem c_X4_bounded (l : Launch) (E : Ev) (x0 : Int64) (S : Hp) (r : (Int32 × Hp)) (h : f_X4_bounded x0 S = some r) : ho_M l yH E yX4_bounded cX4_bounded 2 (some .int) 1 [.long x0] S (some (.int r.1), r.2) := by
  refine ho_in (by decide) (Nat.le_of_ble_eq_true rfl) ?_
  intro p e s m args below meth c C hR ls hl
  have C : ho_I p s m args meth c RX4 cX4_bounded 2 (some .int) := C
  have hl : lv_has ls 2 [(0, .long x0)] := hl
  unfold f_X4_bounded at h
  refine lv_ldc2 (v := (-1000000 : Int64)) C.1 C.2.1 C.2.2.2.2.1 (C.2.2.2.2.2.1 _ kc_RX4_52) dX4_bounded_0 ?_
  refine lv_ldc2 (v := (1000000 : Int64)) C.1 C.2.1 C.2.2.2.2.1 (C.2.2.2.2.2.1 _ kc_RX4_54) dX4_bounded_3 ?_
  refine lv_lload_n C.1 C.2.1 dX4_bounded_6 rfl (lv_at hl 0 rfl) ?_
  obtain ⟨r1, S1, h1, h⟩ := ob2_ok h
  refine hr_Sl (w := r1) (S' := S1) (As := [.long (1000000 : Int64), .long x0]) (rest := [.long (-1000000 : Int64)]) C (c_J9_min_f86c9 l E (1000000 : Int64) x0 _ _ h1) ys_J9_min_f86c9 lk_RX4_46 rfl rfl hl.1 (Nat.le_of_ble_eq_true rfl) (by decide) (by decide) hR (ho_A hR) dX4_bounded_7 (fun H locs hR => ?_)
  obtain ⟨r2, S2, h2, h⟩ := ob2_ok h
  refine hr_Sl (w := r2) (S' := S2) (As := [.long (-1000000 : Int64), .long r1]) (rest := []) C (c_J9_max_f86c9 l E (-1000000 : Int64) r1 _ _ h2) ys_J9_max_f86c9 lk_RX4_49 rfl rfl hl.1 (Nat.le_of_ble_eq_true rfl) (by decide) (by decide) hR (ho_A hR) dX4_bounded_10 (fun H locs hR => ?_)
  refine lv_l2i (v := (r2.toInt32)) C.1 C.2.1 dX4_bounded_13 rfl ?_
  exact ho_iret C hR h dX4_bounded_14
theorem dX4_value_0 : decode cX4_value 0 = .ok (.iconst 0, 1) := by decide +kernel
theorem dX4_value_1 : decode cX4_value 1 = .ok (.istore_n 2, 1) := by decide +kernel
theorem dX4_value_2 : decode cX4_value 2 = .ok (.iconst 0, 1) := by decide +kernel
theorem dX4_value_3 : decode cX4_value 3 = .ok (.istore_n 3, 1) := by decide +kernel
theorem dX4_value_4 : decode cX4_value 4 = .ok (.iload_n 3, 1) := by decide +kernel
theorem dX4_value_5 : decode cX4_value 5 = .ok (.aload_n 0, 1) := by decide +kernel
theorem dX4_value_6 : decode cX4_value 6 = .ok (.getfield 20, 3) := by decide +kernel
theorem dX4_value_9 : decode cX4_value 9 = .ok (.if_icmp .ge 143, 3) := by decide +kernel
theorem dX4_value_12 : decode cX4_value 12 = .ok (.aload_n 0, 1) := by decide +kernel
theorem dX4_value_13 : decode cX4_value 13 = .ok (.getfield 11, 3) := by decide +kernel
theorem dX4_value_16 : decode cX4_value 16 = .ok (.iload_n 3, 1) := by decide +kernel
theorem dX4_value_17 : decode cX4_value 17 = .ok (.iaload, 1) := by decide +kernel
theorem dX4_value_18 : decode cX4_value 18 = .ok (.istore 4, 2) := by decide +kernel
theorem dX4_value_20 : decode cX4_value 20 = .ok (.iload 4, 2) := by decide +kernel
theorem dX4_value_22 : decode cX4_value 22 = .ok (.sipush 10100, 3) := by decide +kernel
theorem dX4_value_25 : decode cX4_value 25 = .ok (.if_icmp .ge 44, 3) := by decide +kernel
theorem dX4_value_28 : decode cX4_value 28 = .ok (.iload_n 2, 1) := by decide +kernel
theorem dX4_value_29 : decode cX4_value 29 = .ok (.bipush 64, 2) := by decide +kernel
theorem dX4_value_31 : decode cX4_value 31 = .ok (.if_icmp .ge 115, 3) := by decide +kernel
theorem dX4_value_34 : decode cX4_value 34 = .ok (.aload_n 0, 1) := by decide +kernel
theorem dX4_value_35 : decode cX4_value 35 = .ok (.getfield 17, 3) := by decide +kernel
theorem dX4_value_38 : decode cX4_value 38 = .ok (.iload_n 2, 1) := by decide +kernel
theorem dX4_value_39 : decode cX4_value 39 = .ok (.iload 4, 2) := by decide +kernel
theorem dX4_value_41 : decode cX4_value 41 = .ok (.sipush 10000, 3) := by decide +kernel
theorem dX4_value_44 : decode cX4_value 44 = .ok (.if_icmp .ge 8, 3) := by decide +kernel
theorem dX4_value_47 : decode cX4_value 47 = .ok (.iload 4, 2) := by decide +kernel
theorem dX4_value_49 : decode cX4_value 49 = .ok (.goto 13, 3) := by decide +kernel
theorem dX4_value_52 : decode cX4_value 52 = .ok (.aload_n 1, 1) := by decide +kernel
theorem dX4_value_53 : decode cX4_value 53 = .ok (.iload 4, 2) := by decide +kernel
theorem dX4_value_55 : decode cX4_value 55 = .ok (.sipush 10000, 3) := by decide +kernel
theorem dX4_value_58 : decode cX4_value 58 = .ok (.isub, 1) := by decide +kernel
theorem dX4_value_59 : decode cX4_value 59 = .ok (.invokestatic 24, 3) := by decide +kernel
theorem dX4_value_62 : decode cX4_value 62 = .ok (.iastore, 1) := by decide +kernel
theorem dX4_value_63 : decode cX4_value 63 = .ok (.iinc 2 1, 3) := by decide +kernel
theorem dX4_value_66 : decode cX4_value 66 = .ok (.goto 80, 3) := by decide +kernel
theorem dX4_value_69 : decode cX4_value 69 = .ok (.iload 4, 2) := by decide +kernel
theorem dX4_value_71 : decode cX4_value 71 = .ok (.sipush 10111, 3) := by decide +kernel
theorem dX4_value_74 : decode cX4_value 74 = .ok (.if_icmp .lt 32, 3) := by decide +kernel
theorem dX4_value_77 : decode cX4_value 77 = .ok (.iload_n 2, 1) := by decide +kernel
theorem dX4_value_78 : decode cX4_value 78 = .ok (.ifCond .le 68, 3) := by decide +kernel
theorem dX4_value_81 : decode cX4_value 81 = .ok (.aload_n 0, 1) := by decide +kernel
theorem dX4_value_82 : decode cX4_value 82 = .ok (.getfield 17, 3) := by decide +kernel
theorem dX4_value_85 : decode cX4_value 85 = .ok (.iload_n 2, 1) := by decide +kernel
theorem dX4_value_86 : decode cX4_value 86 = .ok (.iconst 1, 1) := by decide +kernel
theorem dX4_value_87 : decode cX4_value 87 = .ok (.isub, 1) := by decide +kernel
theorem dX4_value_88 : decode cX4_value 88 = .ok (.iload 4, 2) := by decide +kernel
theorem dX4_value_90 : decode cX4_value 90 = .ok (.aload_n 0, 1) := by decide +kernel
theorem dX4_value_91 : decode cX4_value 91 = .ok (.getfield 17, 3) := by decide +kernel
theorem dX4_value_94 : decode cX4_value 94 = .ok (.iload_n 2, 1) := by decide +kernel
theorem dX4_value_95 : decode cX4_value 95 = .ok (.iconst 1, 1) := by decide +kernel
theorem dX4_value_96 : decode cX4_value 96 = .ok (.isub, 1) := by decide +kernel
theorem dX4_value_97 : decode cX4_value 97 = .ok (.iaload, 1) := by decide +kernel
theorem dX4_value_98 : decode cX4_value 98 = .ok (.aload_n 1, 1) := by decide +kernel
theorem dX4_value_99 : decode cX4_value 99 = .ok (.invokestatic 28, 3) := by decide +kernel
theorem dX4_value_102 : decode cX4_value 102 = .ok (.iastore, 1) := by decide +kernel
theorem dX4_value_103 : decode cX4_value 103 = .ok (.goto 43, 3) := by decide +kernel
theorem dX4_value_106 : decode cX4_value 106 = .ok (.iload_n 2, 1) := by decide +kernel
theorem dX4_value_107 : decode cX4_value 107 = .ok (.iconst 1, 1) := by decide +kernel
theorem dX4_value_108 : decode cX4_value 108 = .ok (.if_icmp .le 38, 3) := by decide +kernel
theorem dX4_value_111 : decode cX4_value 111 = .ok (.iinc 2 (-1), 3) := by decide +kernel
theorem dX4_value_114 : decode cX4_value 114 = .ok (.aload_n 0, 1) := by decide +kernel
theorem dX4_value_115 : decode cX4_value 115 = .ok (.getfield 17, 3) := by decide +kernel
theorem dX4_value_118 : decode cX4_value 118 = .ok (.iload_n 2, 1) := by decide +kernel
theorem dX4_value_119 : decode cX4_value 119 = .ok (.iconst 1, 1) := by decide +kernel
theorem dX4_value_120 : decode cX4_value 120 = .ok (.isub, 1) := by decide +kernel
theorem dX4_value_121 : decode cX4_value 121 = .ok (.iload 4, 2) := by decide +kernel
theorem dX4_value_123 : decode cX4_value 123 = .ok (.aload_n 0, 1) := by decide +kernel
theorem dX4_value_124 : decode cX4_value 124 = .ok (.getfield 17, 3) := by decide +kernel
theorem dX4_value_127 : decode cX4_value 127 = .ok (.iload_n 2, 1) := by decide +kernel
theorem dX4_value_128 : decode cX4_value 128 = .ok (.iconst 1, 1) := by decide +kernel
theorem dX4_value_129 : decode cX4_value 129 = .ok (.isub, 1) := by decide +kernel
theorem dX4_value_130 : decode cX4_value 130 = .ok (.iaload, 1) := by decide +kernel
theorem dX4_value_131 : decode cX4_value 131 = .ok (.i2l, 1) := by decide +kernel
theorem dX4_value_132 : decode cX4_value 132 = .ok (.aload_n 0, 1) := by decide +kernel
theorem dX4_value_133 : decode cX4_value 133 = .ok (.getfield 17, 3) := by decide +kernel
theorem dX4_value_136 : decode cX4_value 136 = .ok (.iload_n 2, 1) := by decide +kernel
theorem dX4_value_137 : decode cX4_value 137 = .ok (.iaload, 1) := by decide +kernel
theorem dX4_value_138 : decode cX4_value 138 = .ok (.i2l, 1) := by decide +kernel
theorem dX4_value_139 : decode cX4_value 139 = .ok (.invokestatic 32, 3) := by decide +kernel
theorem dX4_value_142 : decode cX4_value 142 = .ok (.invokestatic 36, 3) := by decide +kernel
theorem dX4_value_145 : decode cX4_value 145 = .ok (.iastore, 1) := by decide +kernel
theorem dX4_value_146 : decode cX4_value 146 = .ok (.iinc 3 1, 3) := by decide +kernel
theorem dX4_value_149 : decode cX4_value 149 = .ok (.goto (-145), 3) := by decide +kernel
theorem dX4_value_152 : decode cX4_value 152 = .ok (.iload_n 2, 1) := by decide +kernel
theorem dX4_value_153 : decode cX4_value 153 = .ok (.ifCond .le 12, 3) := by decide +kernel
theorem dX4_value_156 : decode cX4_value 156 = .ok (.aload_n 0, 1) := by decide +kernel
theorem dX4_value_157 : decode cX4_value 157 = .ok (.getfield 17, 3) := by decide +kernel
theorem dX4_value_160 : decode cX4_value 160 = .ok (.iconst 0, 1) := by decide +kernel
theorem dX4_value_161 : decode cX4_value 161 = .ok (.iaload, 1) := by decide +kernel
theorem dX4_value_162 : decode cX4_value 162 = .ok (.goto 4, 3) := by decide +kernel
theorem dX4_value_165 : decode cX4_value 165 = .ok (.iconst 0, 1) := by decide +kernel
theorem dX4_value_166 : decode cX4_value 166 = .ok (.ireturn, 1) := by decide +kernel
def f_X4_value_146 (K4 : Int32 → Int32 → Hp → Option (Int32 × Hp)) (a0 : Nat) (w1 n1 : Nat) (x2 : Int32) (x3 : Int32) (S : Hp) : Option (Int32 × Hp) :=
  le1 (x3 + (1 : Int32)) (fun v1 => K4 x2 v1 S)
set_option maxHeartbeats 4000000 in
set_option maxRecDepth 100000 in
theorem w_X4_value_146 {p : Program} {l : Launch} {e : Env} {s : State} {m : MethodId} {args : Array Value} {below : List Frame} {meth : Method} {c : Code} {E : Ev} {S0 : Hp} {r : (Int32 × Hp)} (C : ho_I p s m args meth c RX4 cX4_value 5 (some .int)) (K4 : Int32 → Int32 → Hp → Option (Int32 × Hp)) (a0 : Nat) (w1 n1 : Nat) (ha0 : a0 ∈ yH.1 ∧ yH.2.1 a0 = (1, 4)) (hw1 : w1 ∈ yH.1 ∧ yH.2.1 w1 = (4, n1)) (hK4 : ∀ (y2 : Int32) (y3 : Int32) (S : Hp), K4 y2 y3 S = some r → ho_G p l e s m args below meth c yH E S0 2 5 (some (.int r.1), r.2) 4 [(0, .ref (E.2.1 a0)), (1, .ref (E.2.1 w1)), (2, .int y2), (3, .int y3)] [] S) :
    ∀ (x2 : Int32) (x3 : Int32) (S : Hp), f_X4_value_146 K4 a0 w1 n1 x2 x3 S = some r → ho_G p l e s m args below meth c yH E S0 2 5 (some (.int r.1), r.2) 146 [(0, .ref (E.2.1 a0)), (1, .ref (E.2.1 w1)), (2, .int x2), (3, .int x3)] [] S := by
  intro x2 x3 S h H locs ls hR hl
  unfold f_X4_value_146 at h
  obtain ⟨v1, e1, h⟩ := le1_ok h
  refine lv_iinc (v := v1) (lv' := [(3, .int v1), (0, .ref (E.2.1 a0)), (1, .ref (E.2.1 w1)), (2, .int x2)]) C.1 C.2.1 dX4_value_146 hl (k := 3) rfl (by rw [e1]; rfl) (by decide) rfl (fun ls hl => ?_)
  refine lv_goto (tgt := 4) C.1 C.2.1 dX4_value_149 (by decide) ?_
  exact hK4 x2 v1 S h _ _ _ hR (lv_sub hl [1, 2, 3, 0] rfl)
def f_X4_value_62 (K4 : Int32 → Int32 → Hp → Option (Int32 × Hp)) (a0 : Nat) (w1 n1 : Nat) (x2 : Int32) (x3 : Int32) (z1 : Int32) (z2 : Int32) (S : Hp) : Option (Int32 × Hp) :=
  stI S (a0 + 2) 64 z1 z2 (fun S1 => le1 (x2 + (1 : Int32)) (fun v2 => f_X4_value_146 K4 a0 w1 n1 v2 x3 S1))
set_option maxHeartbeats 4000000 in
set_option maxRecDepth 100000 in
theorem w_X4_value_62 {p : Program} {l : Launch} {e : Env} {s : State} {m : MethodId} {args : Array Value} {below : List Frame} {meth : Method} {c : Code} {E : Ev} {S0 : Hp} {r : (Int32 × Hp)} (C : ho_I p s m args meth c RX4 cX4_value 5 (some .int)) (K4 : Int32 → Int32 → Hp → Option (Int32 × Hp)) (a0 : Nat) (w1 n1 : Nat) (ha0 : a0 ∈ yH.1 ∧ yH.2.1 a0 = (1, 4)) (hw1 : w1 ∈ yH.1 ∧ yH.2.1 w1 = (4, n1)) (hK4 : ∀ (y2 : Int32) (y3 : Int32) (S : Hp), K4 y2 y3 S = some r → ho_G p l e s m args below meth c yH E S0 2 5 (some (.int r.1), r.2) 4 [(0, .ref (E.2.1 a0)), (1, .ref (E.2.1 w1)), (2, .int y2), (3, .int y3)] [] S) :
    ∀ (x2 : Int32) (x3 : Int32) (z1 : Int32) (z2 : Int32) (S : Hp), f_X4_value_62 K4 a0 w1 n1 x2 x3 z1 z2 S = some r → ho_G p l e s m args below meth c yH E S0 2 5 (some (.int r.1), r.2) 62 [(0, .ref (E.2.1 a0)), (1, .ref (E.2.1 w1)), (2, .int x2), (3, .int x3)] [.int z2, .int z1, .ref (E.2.1 (a0 + 2))] S := by
  intro x2 x3 z1 z2 S h H locs ls hR hl
  unfold f_X4_value_62 at h
  obtain ⟨S1, e1, hi1, h⟩ := stI_ok h
  refine hr_ist C hR (rH_4_2 ha0) hi1 e1 dX4_value_62 (fun H locs hR => ?_)
  obtain ⟨v2, e2, h⟩ := le1_ok h
  refine lv_iinc (v := v2) (lv' := [(2, .int v2), (0, .ref (E.2.1 a0)), (1, .ref (E.2.1 w1)), (3, .int x3)]) C.1 C.2.1 dX4_value_63 hl (k := 2) rfl (by rw [e2]; rfl) (by decide) rfl (fun ls hl => ?_)
  refine lv_goto (tgt := 146) C.1 C.2.1 dX4_value_66 (by decide) ?_
  exact w_X4_value_146 C K4 a0 w1 n1 ha0 hw1 hK4 v2 x3 S1 h _ _ _ hR (lv_sub hl [1, 2, 0, 3] rfl)
def f_X4_value_4 (a0 : Nat) (w1 n1 : Nat) : Nat → Int32 → Int32 → Hp → Option (Int32 × Hp)
  | 0, _, _, _ => none
  | k + 1, x2, x3, S => if (S.1 a0 2) ≤ x3 then if x2 ≤ 0 then some ((0 : Int32), S) else ldI S (a0 + 2) 64 (0 : Int32) (fun v1 => some (v1, S)) else ldI S (a0 + 1) 1600 x3 (fun v2 => if (10100 : Int32) ≤ v2 then if v2 < (10111 : Int32) then if x2 ≤ (1 : Int32) then f_X4_value_146 (f_X4_value_4 a0 w1 n1 k) a0 w1 n1 x2 x3 S else le1 (x2 + (-1 : Int32)) (fun v3 => ldI S (a0 + 2) 64 (v3 - (1 : Int32)) (fun v4 => ldI S (a0 + 2) 64 v3 (fun v5 => ob2 (f_X4_joined v2 (v4.toInt64) (v5.toInt64) S) (fun r6 S6 => ob2 (f_X4_bounded r6 S6) (fun r7 S7 => stI S7 (a0 + 2) 64 (v3 - (1 : Int32)) r7 (fun S8 => f_X4_value_146 (f_X4_value_4 a0 w1 n1 k) a0 w1 n1 v3 x3 S8)))))) else if x2 ≤ 0 then f_X4_value_146 (f_X4_value_4 a0 w1 n1 k) a0 w1 n1 x2 x3 S else ldI S (a0 + 2) 64 (x2 - (1 : Int32)) (fun v9 => ob2 (f_X4_single v2 v9 w1 n1 S) (fun r10 S10 => stI S10 (a0 + 2) 64 (x2 - (1 : Int32)) r10 (fun S11 => f_X4_value_146 (f_X4_value_4 a0 w1 n1 k) a0 w1 n1 x2 x3 S11))) else if (64 : Int32) ≤ x2 then f_X4_value_146 (f_X4_value_4 a0 w1 n1 k) a0 w1 n1 x2 x3 S else if (10000 : Int32) ≤ v2 then ob2 (f_X4_factAt w1 n1 (v2 - (10000 : Int32)) S) (fun r12 S12 => f_X4_value_62 (f_X4_value_4 a0 w1 n1 k) a0 w1 n1 x2 x3 x2 r12 S12) else f_X4_value_62 (f_X4_value_4 a0 w1 n1 k) a0 w1 n1 x2 x3 x2 v2 S)
set_option maxHeartbeats 4000000 in
set_option maxRecDepth 100000 in
theorem w_X4_value_4 {p : Program} {l : Launch} {e : Env} {s : State} {m : MethodId} {args : Array Value} {below : List Frame} {meth : Method} {c : Code} {E : Ev} {S0 : Hp} {r : (Int32 × Hp)} (C : ho_I p s m args meth c RX4 cX4_value 5 (some .int)) (a0 : Nat) (w1 n1 : Nat) (ha0 : a0 ∈ yH.1 ∧ yH.2.1 a0 = (1, 4)) (hw1 : w1 ∈ yH.1 ∧ yH.2.1 w1 = (4, n1)) :
    ∀ (k : Nat) (x2 : Int32) (x3 : Int32) (S : Hp), f_X4_value_4 a0 w1 n1 k x2 x3 S = some r → ho_G p l e s m args below meth c yH E S0 2 5 (some (.int r.1), r.2) 4 [(0, .ref (E.2.1 a0)), (1, .ref (E.2.1 w1)), (2, .int x2), (3, .int x3)] [] S := by
  intro k
  induction k with
  | zero =>
    intro x2 x3 S h
    exact absurd (show (none : Option (Int32 × Hp)) = some r from h) (by simp)
  | succ k ih =>
    intro x2 x3 S h H locs ls hR hl
    rw [f_X4_value_4] at h
    refine lv_iload_n C.1 C.2.1 dX4_value_4 rfl (lv_at hl 3 rfl) ?_
    refine lv_aload_n C.1 C.2.1 dX4_value_5 rfl (lv_at hl 0 rfl) ?_
    refine ho_getI C cf4 fH_RX4_20 hR ha0 dX4_value_6 ?_
    refine lv_icmp_ge (tgt := 152) C.1 C.2.1 dX4_value_9 (by decide) (fun hc => ?_) (fun hc => ?_)
    · replace h := if_t h hc
      refine lv_iload_n C.1 C.2.1 dX4_value_152 rfl (lv_at hl 2 rfl) ?_
      refine lv_if_le (tgt := 165) C.1 C.2.1 dX4_value_153 (by decide) (fun hc => ?_) (fun hc => ?_)
      · replace h := if_t h hc
        refine lv_iconst (v := (0 : Int32)) C.1 C.2.1 dX4_value_165 (by decide) ?_
        exact ho_iret C hR h dX4_value_166
      · replace h := if_f h hc
        refine lv_aload_n C.1 C.2.1 dX4_value_156 rfl (lv_at hl 0 rfl) ?_
        refine ho_getR (a' := (a0 + 2)) C cf4 fH_RX4_17 hR ha0 (pH_4_1 ha0.2) dX4_value_157 ?_
        refine lv_iconst (v := (0 : Int32)) C.1 C.2.1 dX4_value_160 (by decide) ?_
        obtain ⟨v1, e1, hi1, h⟩ := ldI_ok h
        refine hr_ild C hR (rH_4_2 ha0) hi1 e1 dX4_value_161 ?_
        refine lv_goto (tgt := 166) C.1 C.2.1 dX4_value_162 (by decide) ?_
        exact ho_iret C hR h dX4_value_166
    · replace h := if_f h hc
      refine lv_aload_n C.1 C.2.1 dX4_value_12 rfl (lv_at hl 0 rfl) ?_
      refine ho_getR (a' := (a0 + 1)) C cf4 fH_RX4_11 hR ha0 (pH_4_0 ha0.2) dX4_value_13 ?_
      refine lv_iload_n C.1 C.2.1 dX4_value_16 rfl (lv_at hl 3 rfl) ?_
      obtain ⟨v2, e2, hi2, h⟩ := ldI_ok h
      refine hr_ild C hR (rH_4_1 ha0) hi2 e2 dX4_value_17 ?_
      refine lv_istore (lv' := [(4, .int v2), (0, .ref (E.2.1 a0)), (1, .ref (E.2.1 w1)), (2, .int x2), (3, .int x3)]) C.1 C.2.1 dX4_value_18 hl (by decide) rfl (fun ls hl => ?_)
      refine lv_iload C.1 C.2.1 dX4_value_20 (lv_at hl 0 rfl) ?_
      refine lv_sipush (v := (10100 : Int32)) C.1 C.2.1 dX4_value_22 (by decide) ?_
      refine lv_icmp_ge (tgt := 69) C.1 C.2.1 dX4_value_25 (by decide) (fun hc => ?_) (fun hc => ?_)
      · replace h := if_t h hc
        refine lv_iload C.1 C.2.1 dX4_value_69 (lv_at hl 0 rfl) ?_
        refine lv_sipush (v := (10111 : Int32)) C.1 C.2.1 dX4_value_71 (by decide) ?_
        refine lv_icmp_lt (tgt := 106) C.1 C.2.1 dX4_value_74 (by decide) (fun hc => ?_) (fun hc => ?_)
        · replace h := if_t h hc
          refine lv_iload_n C.1 C.2.1 dX4_value_106 rfl (lv_at hl 3 rfl) ?_
          refine lv_iconst (v := (1 : Int32)) C.1 C.2.1 dX4_value_107 (by decide) ?_
          refine lv_icmp_le (tgt := 146) C.1 C.2.1 dX4_value_108 (by decide) (fun hc => ?_) (fun hc => ?_)
          · replace h := if_t h hc
            exact w_X4_value_146 C (f_X4_value_4 a0 w1 n1 k) a0 w1 n1 ha0 hw1 ih x2 x3 S h _ _ _ hR (lv_sub hl [1, 2, 3, 4] rfl)
          · replace h := if_f h hc
            obtain ⟨v3, e3, h⟩ := le1_ok h
            refine lv_iinc (v := v3) (lv' := [(2, .int v3), (4, .int v2), (0, .ref (E.2.1 a0)), (1, .ref (E.2.1 w1)), (3, .int x3)]) C.1 C.2.1 dX4_value_111 hl (k := 3) rfl (by rw [e3]; rfl) (by decide) rfl (fun ls hl => ?_)
            refine lv_aload_n C.1 C.2.1 dX4_value_114 rfl (lv_at hl 2 rfl) ?_
            refine ho_getR (a' := (a0 + 2)) C cf4 fH_RX4_17 hR ha0 (pH_4_1 ha0.2) dX4_value_115 ?_
            refine lv_iload_n C.1 C.2.1 dX4_value_118 rfl (lv_at hl 0 rfl) ?_
            refine lv_iconst (v := (1 : Int32)) C.1 C.2.1 dX4_value_119 (by decide) ?_
            refine lv_isub C.1 C.2.1 dX4_value_120 ?_
            refine lv_iload C.1 C.2.1 dX4_value_121 (lv_at hl 1 rfl) ?_
            refine lv_aload_n C.1 C.2.1 dX4_value_123 rfl (lv_at hl 2 rfl) ?_
            refine ho_getR (a' := (a0 + 2)) C cf4 fH_RX4_17 hR ha0 (pH_4_1 ha0.2) dX4_value_124 ?_
            refine lv_iload_n C.1 C.2.1 dX4_value_127 rfl (lv_at hl 0 rfl) ?_
            refine lv_iconst (v := (1 : Int32)) C.1 C.2.1 dX4_value_128 (by decide) ?_
            refine lv_isub C.1 C.2.1 dX4_value_129 ?_
            obtain ⟨v4, e4, hi4, h⟩ := ldI_ok h
            refine hr_ild C hR (rH_4_2 ha0) hi4 e4 dX4_value_130 ?_
            refine lv_i2l (v := (v4.toInt64)) C.1 C.2.1 dX4_value_131 rfl ?_
            refine lv_aload_n C.1 C.2.1 dX4_value_132 rfl (lv_at hl 2 rfl) ?_
            refine ho_getR (a' := (a0 + 2)) C cf4 fH_RX4_17 hR ha0 (pH_4_1 ha0.2) dX4_value_133 ?_
            refine lv_iload_n C.1 C.2.1 dX4_value_136 rfl (lv_at hl 0 rfl) ?_
            obtain ⟨v5, e5, hi5, h⟩ := ldI_ok h
            refine hr_ild C hR (rH_4_2 ha0) hi5 e5 dX4_value_137 ?_
            refine lv_i2l (v := (v5.toInt64)) C.1 C.2.1 dX4_value_138 rfl ?_
            obtain ⟨r6, S6, h6, h⟩ := ob2_ok h
            refine hr_Sl (w := r6) (S' := S6) (As := [.int v2, .long (v4.toInt64), .long (v5.toInt64)]) (rest := [.int (v3 - (1 : Int32)), .ref (E.2.1 (a0 + 2))]) C (c_X4_joined l E v2 (v4.toInt64) (v5.toInt64) _ _ h6) ys_X4_joined lk_RX4_32 rfl rfl hl.1 (Nat.le_of_ble_eq_true rfl) (by decide) (by decide) hR (ho_A hR) dX4_value_139 (fun H locs hR => ?_)
            obtain ⟨r7, S7, h7, h⟩ := ob2_ok h
            refine hr_Si (v := r7) (S' := S7) (As := [.long r6]) (rest := [.int (v3 - (1 : Int32)), .ref (E.2.1 (a0 + 2))]) C (c_X4_bounded l E r6 _ _ h7) ys_X4_bounded lk_RX4_36 rfl rfl hl.1 (Nat.le_of_ble_eq_true rfl) (by decide) (by decide) hR (ho_A hR) dX4_value_142 (fun H locs hR => ?_)
            obtain ⟨S8, e8, hi8, h⟩ := stI_ok h
            refine hr_ist C hR (rH_4_2 ha0) hi8 e8 dX4_value_145 (fun H locs hR => ?_)
            exact w_X4_value_146 C (f_X4_value_4 a0 w1 n1 k) a0 w1 n1 ha0 hw1 ih v3 x3 S8 h _ _ _ hR (lv_sub hl [2, 3, 0, 4] rfl)
        · replace h := if_f h hc
          refine lv_iload_n C.1 C.2.1 dX4_value_77 rfl (lv_at hl 3 rfl) ?_
          refine lv_if_le (tgt := 146) C.1 C.2.1 dX4_value_78 (by decide) (fun hc => ?_) (fun hc => ?_)
          · replace h := if_t h hc
            exact w_X4_value_146 C (f_X4_value_4 a0 w1 n1 k) a0 w1 n1 ha0 hw1 ih x2 x3 S h _ _ _ hR (lv_sub hl [1, 2, 3, 4] rfl)
          · replace h := if_f h hc
            refine lv_aload_n C.1 C.2.1 dX4_value_81 rfl (lv_at hl 1 rfl) ?_
            refine ho_getR (a' := (a0 + 2)) C cf4 fH_RX4_17 hR ha0 (pH_4_1 ha0.2) dX4_value_82 ?_
            refine lv_iload_n C.1 C.2.1 dX4_value_85 rfl (lv_at hl 3 rfl) ?_
            refine lv_iconst (v := (1 : Int32)) C.1 C.2.1 dX4_value_86 (by decide) ?_
            refine lv_isub C.1 C.2.1 dX4_value_87 ?_
            refine lv_iload C.1 C.2.1 dX4_value_88 (lv_at hl 0 rfl) ?_
            refine lv_aload_n C.1 C.2.1 dX4_value_90 rfl (lv_at hl 1 rfl) ?_
            refine ho_getR (a' := (a0 + 2)) C cf4 fH_RX4_17 hR ha0 (pH_4_1 ha0.2) dX4_value_91 ?_
            refine lv_iload_n C.1 C.2.1 dX4_value_94 rfl (lv_at hl 3 rfl) ?_
            refine lv_iconst (v := (1 : Int32)) C.1 C.2.1 dX4_value_95 (by decide) ?_
            refine lv_isub C.1 C.2.1 dX4_value_96 ?_
            obtain ⟨v9, e9, hi9, h⟩ := ldI_ok h
            refine hr_ild C hR (rH_4_2 ha0) hi9 e9 dX4_value_97 ?_
            refine lv_aload_n C.1 C.2.1 dX4_value_98 rfl (lv_at hl 2 rfl) ?_
            obtain ⟨r10, S10, h10, h⟩ := ob2_ok h
            refine hr_Si (v := r10) (S' := S10) (As := [.int v2, .int v9, .ref (E.2.1 w1)]) (rest := [.int (x2 - (1 : Int32)), .ref (E.2.1 (a0 + 2))]) C (c_X4_single l E v2 v9 w1 n1 hw1 _ _ h10) ys_X4_single lk_RX4_28 rfl rfl hl.1 (Nat.le_of_ble_eq_true rfl) (by decide) (by decide) hR (ho_A hR) dX4_value_99 (fun H locs hR => ?_)
            obtain ⟨S11, e11, hi11, h⟩ := stI_ok h
            refine hr_ist C hR (rH_4_2 ha0) hi11 e11 dX4_value_102 (fun H locs hR => ?_)
            refine lv_goto (tgt := 146) C.1 C.2.1 dX4_value_103 (by decide) ?_
            exact w_X4_value_146 C (f_X4_value_4 a0 w1 n1 k) a0 w1 n1 ha0 hw1 ih x2 x3 S11 h _ _ _ hR (lv_sub hl [1, 2, 3, 4] rfl)
      · replace h := if_f h hc
        refine lv_iload_n C.1 C.2.1 dX4_value_28 rfl (lv_at hl 3 rfl) ?_
        refine lv_bipush (v := (64 : Int32)) C.1 C.2.1 dX4_value_29 (by decide) ?_
        refine lv_icmp_ge (tgt := 146) C.1 C.2.1 dX4_value_31 (by decide) (fun hc => ?_) (fun hc => ?_)
        · replace h := if_t h hc
          exact w_X4_value_146 C (f_X4_value_4 a0 w1 n1 k) a0 w1 n1 ha0 hw1 ih x2 x3 S h _ _ _ hR (lv_sub hl [1, 2, 3, 4] rfl)
        · replace h := if_f h hc
          refine lv_aload_n C.1 C.2.1 dX4_value_34 rfl (lv_at hl 1 rfl) ?_
          refine ho_getR (a' := (a0 + 2)) C cf4 fH_RX4_17 hR ha0 (pH_4_1 ha0.2) dX4_value_35 ?_
          refine lv_iload_n C.1 C.2.1 dX4_value_38 rfl (lv_at hl 3 rfl) ?_
          refine lv_iload C.1 C.2.1 dX4_value_39 (lv_at hl 0 rfl) ?_
          refine lv_sipush (v := (10000 : Int32)) C.1 C.2.1 dX4_value_41 (by decide) ?_
          refine lv_icmp_ge (tgt := 52) C.1 C.2.1 dX4_value_44 (by decide) (fun hc => ?_) (fun hc => ?_)
          · replace h := if_t h hc
            refine lv_aload_n C.1 C.2.1 dX4_value_52 rfl (lv_at hl 2 rfl) ?_
            refine lv_iload C.1 C.2.1 dX4_value_53 (lv_at hl 0 rfl) ?_
            refine lv_sipush (v := (10000 : Int32)) C.1 C.2.1 dX4_value_55 (by decide) ?_
            refine lv_isub C.1 C.2.1 dX4_value_58 ?_
            obtain ⟨r12, S12, h12, h⟩ := ob2_ok h
            refine hr_Si (v := r12) (S' := S12) (As := [.ref (E.2.1 w1), .int (v2 - (10000 : Int32))]) (rest := [.int x2, .ref (E.2.1 (a0 + 2))]) C (c_X4_factAt l E w1 n1 (v2 - (10000 : Int32)) hw1 _ _ h12) ys_X4_factAt lk_RX4_24 rfl rfl hl.1 (Nat.le_of_ble_eq_true rfl) (by decide) (by decide) hR (ho_A hR) dX4_value_59 (fun H locs hR => ?_)
            exact w_X4_value_62 C (f_X4_value_4 a0 w1 n1 k) a0 w1 n1 ha0 hw1 ih x2 x3 x2 r12 S12 h _ _ _ hR (lv_sub hl [1, 2, 3, 4] rfl)
          · replace h := if_f h hc
            refine lv_iload C.1 C.2.1 dX4_value_47 (lv_at hl 0 rfl) ?_
            refine lv_goto (tgt := 62) C.1 C.2.1 dX4_value_49 (by decide) ?_
            exact w_X4_value_62 C (f_X4_value_4 a0 w1 n1 k) a0 w1 n1 ha0 hw1 ih x2 x3 x2 v2 S h _ _ _ hR (lv_sub hl [1, 2, 3, 4] rfl)
def f_X4_value (a0 : Nat) (w1 : Nat) (n1 : Nat) (S : Hp) : Option (Int32 × Hp) :=
  f_X4_value_4 a0 w1 n1 5000 (0 : Int32) (0 : Int32) S
set_option maxHeartbeats 4000000 in
set_option maxRecDepth 100000 in
theorem c_X4_value (l : Launch) (E : Ev) (a0 : Nat) (w1 : Nat) (n1 : Nat) (ha0 : a0 ∈ yH.1 ∧ yH.2.1 a0 = (1, 4)) (hw1 : w1 ∈ yH.1 ∧ yH.2.1 w1 = (4, n1)) (S : Hp) (r : (Int32 × Hp)) (h : f_X4_value a0 w1 n1 S = some r) : ho_M l yH E yX4_value cX4_value 5 (some .int) 2 [.ref (E.2.1 a0), .ref (E.2.1 w1)] S (some (.int r.1), r.2) := by
  refine ho_in (by decide) (Nat.le_of_ble_eq_true rfl) ?_
  intro p e s m args below meth c C hR ls hl
  have C : ho_I p s m args meth c RX4 cX4_value 5 (some .int) := C
  have hl : lv_has ls 5 [(0, .ref (E.2.1 a0)), (1, .ref (E.2.1 w1))] := hl
  unfold f_X4_value at h
  refine lv_iconst (v := (0 : Int32)) C.1 C.2.1 dX4_value_0 (by decide) ?_
  refine lv_istore_n (lv' := [(2, .int (0 : Int32)), (0, .ref (E.2.1 a0)), (1, .ref (E.2.1 w1))]) C.1 C.2.1 dX4_value_1 rfl hl (by decide) rfl (fun ls hl => ?_)
  refine lv_iconst (v := (0 : Int32)) C.1 C.2.1 dX4_value_2 (by decide) ?_
  refine lv_istore_n (lv' := [(3, .int (0 : Int32)), (2, .int (0 : Int32)), (0, .ref (E.2.1 a0)), (1, .ref (E.2.1 w1))]) C.1 C.2.1 dX4_value_3 rfl hl (by decide) rfl (fun ls hl => ?_)
  exact w_X4_value_4 C a0 w1 n1 ha0 hw1 5000 (0 : Int32) (0 : Int32) S h _ _ _ hR (lv_sub hl [2, 3, 1, 0] rfl)
theorem dJ9_max_7cf53_0 : decode cJ9_max_7cf53 0 = .ok (.iload_n 0, 1) := by decide +kernel
theorem dJ9_max_7cf53_1 : decode cJ9_max_7cf53 1 = .ok (.iload_n 1, 1) := by decide +kernel
theorem dJ9_max_7cf53_2 : decode cJ9_max_7cf53 2 = .ok (.if_icmp .lt 7, 3) := by decide +kernel
theorem dJ9_max_7cf53_5 : decode cJ9_max_7cf53 5 = .ok (.iload_n 0, 1) := by decide +kernel
theorem dJ9_max_7cf53_6 : decode cJ9_max_7cf53 6 = .ok (.goto 4, 3) := by decide +kernel
theorem dJ9_max_7cf53_9 : decode cJ9_max_7cf53 9 = .ok (.iload_n 1, 1) := by decide +kernel
theorem dJ9_max_7cf53_10 : decode cJ9_max_7cf53 10 = .ok (.ireturn, 1) := by decide +kernel
def f_J9_max_7cf53 (x0 : Int32) (x1 : Int32) (S : Hp) : Option (Int32 × Hp) :=
  if x0 < x1 then some (x1, S) else some (x0, S)
set_option maxHeartbeats 4000000 in
set_option maxRecDepth 100000 in
theorem c_J9_max_7cf53 (l : Launch) (E : Ev) (x0 : Int32) (x1 : Int32) (S : Hp) (r : (Int32 × Hp)) (h : f_J9_max_7cf53 x0 x1 S = some r) : ho_M l yH E yJ9_max_7cf53 cJ9_max_7cf53 2 (some .int) 0 [.int x0, .int x1] S (some (.int r.1), r.2) := by
  refine ho_inF plF_J9_max_7cf53 (Nat.le_of_ble_eq_true rfl) ?_
  intro p e s m args below meth c C hR ls hl
  have C : ho_I p s m args meth c RJ9 cJ9_max_7cf53 2 (some .int) := C
  have hl : lv_has ls 2 [(0, .int x0), (1, .int x1)] := hl
  unfold f_J9_max_7cf53 at h
  refine lv_iload_n C.1 C.2.1 dJ9_max_7cf53_0 rfl (lv_at hl 0 rfl) ?_
  refine lv_iload_n C.1 C.2.1 dJ9_max_7cf53_1 rfl (lv_at hl 1 rfl) ?_
  refine lv_icmp_lt (tgt := 9) C.1 C.2.1 dJ9_max_7cf53_2 (by decide) (fun hc => ?_) (fun hc => ?_)
  · replace h := if_t h hc
    refine lv_iload_n C.1 C.2.1 dJ9_max_7cf53_9 rfl (lv_at hl 1 rfl) ?_
    exact ho_iret C hR h dJ9_max_7cf53_10
  · replace h := if_f h hc
    refine lv_iload_n C.1 C.2.1 dJ9_max_7cf53_5 rfl (lv_at hl 0 rfl) ?_
    refine lv_goto (tgt := 10) C.1 C.2.1 dJ9_max_7cf53_6 (by decide) ?_
    exact ho_iret C hR h dJ9_max_7cf53_10
theorem dX8_glimpse_0 : decode cX8_glimpse 0 = .ok (.aload_n 0, 1) := by decide +kernel
theorem dX8_glimpse_1 : decode cX8_glimpse 1 = .ok (.getfield 30, 3) := by decide +kernel
theorem dX8_glimpse_4 : decode cX8_glimpse 4 = .ok (.bipush 8, 2) := by decide +kernel
theorem dX8_glimpse_6 : decode cX8_glimpse 6 = .ok (.aload_n 0, 1) := by decide +kernel
theorem dX8_glimpse_7 : decode cX8_glimpse 7 = .ok (.getfield 36, 3) := by decide +kernel
theorem dX8_glimpse_10 : decode cX8_glimpse 10 = .ok (.getfield 42, 3) := by decide +kernel
theorem dX8_glimpse_13 : decode cX8_glimpse 13 = .ok (.iload_n 2, 1) := by decide +kernel
theorem dX8_glimpse_14 : decode cX8_glimpse 14 = .ok (.iaload, 1) := by decide +kernel
theorem dX8_glimpse_15 : decode cX8_glimpse 15 = .ok (.iastore, 1) := by decide +kernel
theorem dX8_glimpse_16 : decode cX8_glimpse 16 = .ok (.aload_n 0, 1) := by decide +kernel
theorem dX8_glimpse_17 : decode cX8_glimpse 17 = .ok (.getfield 30, 3) := by decide +kernel
theorem dX8_glimpse_20 : decode cX8_glimpse 20 = .ok (.bipush 16, 2) := by decide +kernel
theorem dX8_glimpse_22 : decode cX8_glimpse 22 = .ok (.aload_n 1, 1) := by decide +kernel
theorem dX8_glimpse_23 : decode cX8_glimpse 23 = .ok (.getfield 47, 3) := by decide +kernel
theorem dX8_glimpse_26 : decode cX8_glimpse 26 = .ok (.iload_n 2, 1) := by decide +kernel
theorem dX8_glimpse_27 : decode cX8_glimpse 27 = .ok (.iaload, 1) := by decide +kernel
theorem dX8_glimpse_28 : decode cX8_glimpse 28 = .ok (.iastore, 1) := by decide +kernel
theorem dX8_glimpse_29 : decode cX8_glimpse 29 = .ok (.aload_n 0, 1) := by decide +kernel
theorem dX8_glimpse_30 : decode cX8_glimpse 30 = .ok (.getfield 30, 3) := by decide +kernel
theorem dX8_glimpse_33 : decode cX8_glimpse 33 = .ok (.bipush 17, 2) := by decide +kernel
theorem dX8_glimpse_35 : decode cX8_glimpse 35 = .ok (.aload_n 1, 1) := by decide +kernel
theorem dX8_glimpse_36 : decode cX8_glimpse 36 = .ok (.getfield 52, 3) := by decide +kernel
theorem dX8_glimpse_39 : decode cX8_glimpse 39 = .ok (.iastore, 1) := by decide +kernel
theorem dX8_glimpse_40 : decode cX8_glimpse 40 = .ok (.aload_n 0, 1) := by decide +kernel
theorem dX8_glimpse_41 : decode cX8_glimpse 41 = .ok (.getfield 30, 3) := by decide +kernel
theorem dX8_glimpse_44 : decode cX8_glimpse 44 = .ok (.bipush 10, 2) := by decide +kernel
theorem dX8_glimpse_46 : decode cX8_glimpse 46 = .ok (.iload 4, 2) := by decide +kernel
theorem dX8_glimpse_48 : decode cX8_glimpse 48 = .ok (.iastore, 1) := by decide +kernel
theorem dX8_glimpse_49 : decode cX8_glimpse 49 = .ok (.aload_n 0, 1) := by decide +kernel
theorem dX8_glimpse_50 : decode cX8_glimpse 50 = .ok (.getfield 30, 3) := by decide +kernel
theorem dX8_glimpse_53 : decode cX8_glimpse 53 = .ok (.bipush 11, 2) := by decide +kernel
theorem dX8_glimpse_55 : decode cX8_glimpse 55 = .ok (.aload_n 0, 1) := by decide +kernel
theorem dX8_glimpse_56 : decode cX8_glimpse 56 = .ok (.getfield 36, 3) := by decide +kernel
theorem dX8_glimpse_59 : decode cX8_glimpse 59 = .ok (.getfield 55, 3) := by decide +kernel
theorem dX8_glimpse_62 : decode cX8_glimpse 62 = .ok (.iload_n 3, 1) := by decide +kernel
theorem dX8_glimpse_63 : decode cX8_glimpse 63 = .ok (.iaload, 1) := by decide +kernel
theorem dX8_glimpse_64 : decode cX8_glimpse 64 = .ok (.iastore, 1) := by decide +kernel
theorem dX8_glimpse_65 : decode cX8_glimpse 65 = .ok (.iconst 0, 1) := by decide +kernel
theorem dX8_glimpse_66 : decode cX8_glimpse 66 = .ok (.bipush 99, 2) := by decide +kernel
theorem dX8_glimpse_68 : decode cX8_glimpse 68 = .ok (.aload_n 0, 1) := by decide +kernel
theorem dX8_glimpse_69 : decode cX8_glimpse 69 = .ok (.getfield 36, 3) := by decide +kernel
theorem dX8_glimpse_72 : decode cX8_glimpse 72 = .ok (.getfield 58, 3) := by decide +kernel
theorem dX8_glimpse_75 : decode cX8_glimpse 75 = .ok (.aload_n 0, 1) := by decide +kernel
theorem dX8_glimpse_76 : decode cX8_glimpse 76 = .ok (.getfield 30, 3) := by decide +kernel
theorem dX8_glimpse_79 : decode cX8_glimpse 79 = .ok (.invokevirtual 62, 3) := by decide +kernel
theorem dX8_glimpse_82 : decode cX8_glimpse 82 = .ok (.invokestatic 66, 3) := by decide +kernel
theorem dX8_glimpse_85 : decode cX8_glimpse 85 = .ok (.invokestatic 72, 3) := by decide +kernel
theorem dX8_glimpse_88 : decode cX8_glimpse 88 = .ok (.ireturn, 1) := by decide +kernel
def f_X8_glimpse (a1 : Nat) (x2 : Int32) (x3 : Int32) (x4 : Int32) (S : Hp) : Option (Int32 × Hp) :=
  ldP yH S 50 0 2 (fun p1 => ldI S (p1 + 10) 6 x2 (fun v2 => stI S 53 40 (8 : Int32) v2 (fun S3 => ldI S3 (a1 + 2) 6 x2 (fun v4 => stI S3 53 40 (16 : Int32) v4 (fun S5 => stI S5 53 40 (17 : Int32) (S5.1 a1 0) (fun S6 => stI S6 53 40 (10 : Int32) x4 (fun S7 => ldP yH S7 50 0 2 (fun p8 => ldI S7 (p8 + 12) 5 x3 (fun v9 => stI S7 53 40 (11 : Int32) v9 (fun S10 => ldP yH S10 50 0 2 (fun p11 => ob2 (f_X4_value (p11 + 13) 53 40 S10) (fun r12 S12 => ob2 (f_J9_min_7cf53 (99 : Int32) r12 S12) (fun r13 S13 => ob2 (f_J9_max_7cf53 (0 : Int32) r13 S13) (fun r14 S14 => some (r14, S14)))))))))))))))
set_option maxHeartbeats 4000000 in
set_option maxRecDepth 100000 in
theorem c_X8_glimpse (l : Launch) (E : Ev) (a1 : Nat) (x2 : Int32) (x3 : Int32) (x4 : Int32) (ha1 : a1 ∈ yH.1 ∧ yH.2.1 a1 = (1, 9)) (S : Hp) (r : (Int32 × Hp)) (h : f_X8_glimpse a1 x2 x3 x4 S = some r) : ho_M l yH E yX8_glimpse cX8_glimpse 5 (some .int) 3 [.ref (E.2.1 50), .ref (E.2.1 a1), .int x2, .int x3, .int x4] S (some (.int r.1), r.2) := by
  refine ho_in (by decide) (Nat.le_of_ble_eq_true rfl) ?_
  intro p e s m args below meth c C hR ls hl
  have C : ho_I p s m args meth c RX8 cX8_glimpse 5 (some .int) := C
  have hl : lv_has ls 5 [(0, .ref (E.2.1 50)), (1, .ref (E.2.1 a1)), (2, .int x2), (3, .int x3), (4, .int x4)] := hl
  unfold f_X8_glimpse at h
  refine lv_aload_n C.1 C.2.1 dX8_glimpse_0 rfl (lv_at hl 0 rfl) ?_
  refine ho_getR (a' := 53) C cf8 fH_RX8_30 hR aH_50 rfl dX8_glimpse_1 ?_
  refine lv_bipush (v := (8 : Int32)) C.1 C.2.1 dX8_glimpse_4 (by decide) ?_
  refine lv_aload_n C.1 C.2.1 dX8_glimpse_6 rfl (lv_at hl 0 rfl) ?_
  obtain ⟨p1, e1, hp1, h⟩ := ldP_ok h
  refine hr_getP C cf8 fH_RX8_36 hR aH_50 e1 dX8_glimpse_7 ?_
  refine ho_getR (a' := (p1 + 10)) C cf2 fH_RX8_42 hR hp1 (pH_2_11 hp1.2) dX8_glimpse_10 ?_
  refine lv_iload_n C.1 C.2.1 dX8_glimpse_13 rfl (lv_at hl 2 rfl) ?_
  obtain ⟨v2, e2, hi2, h⟩ := ldI_ok h
  refine hr_ild C hR (rH_2_10 hp1) hi2 e2 dX8_glimpse_14 ?_
  obtain ⟨S3, e3, hi3, h⟩ := stI_ok h
  refine hr_ist C hR aH_53 hi3 e3 dX8_glimpse_15 (fun H locs hR => ?_)
  refine lv_aload_n C.1 C.2.1 dX8_glimpse_16 rfl (lv_at hl 0 rfl) ?_
  refine ho_getR (a' := 53) C cf8 fH_RX8_30 hR aH_50 rfl dX8_glimpse_17 ?_
  refine lv_bipush (v := (16 : Int32)) C.1 C.2.1 dX8_glimpse_20 (by decide) ?_
  refine lv_aload_n C.1 C.2.1 dX8_glimpse_22 rfl (lv_at hl 1 rfl) ?_
  refine ho_getR (a' := (a1 + 2)) C cf9 fH_RX8_47 hR ha1 (pH_9_4 ha1.2) dX8_glimpse_23 ?_
  refine lv_iload_n C.1 C.2.1 dX8_glimpse_26 rfl (lv_at hl 2 rfl) ?_
  obtain ⟨v4, e4, hi4, h⟩ := ldI_ok h
  refine hr_ild C hR (rH_9_2 ha1) hi4 e4 dX8_glimpse_27 ?_
  obtain ⟨S5, e5, hi5, h⟩ := stI_ok h
  refine hr_ist C hR aH_53 hi5 e5 dX8_glimpse_28 (fun H locs hR => ?_)
  refine lv_aload_n C.1 C.2.1 dX8_glimpse_29 rfl (lv_at hl 0 rfl) ?_
  refine ho_getR (a' := 53) C cf8 fH_RX8_30 hR aH_50 rfl dX8_glimpse_30 ?_
  refine lv_bipush (v := (17 : Int32)) C.1 C.2.1 dX8_glimpse_33 (by decide) ?_
  refine lv_aload_n C.1 C.2.1 dX8_glimpse_35 rfl (lv_at hl 1 rfl) ?_
  refine ho_getI C cf9 fH_RX8_52 hR ha1 dX8_glimpse_36 ?_
  obtain ⟨S6, e6, hi6, h⟩ := stI_ok h
  refine hr_ist C hR aH_53 hi6 e6 dX8_glimpse_39 (fun H locs hR => ?_)
  refine lv_aload_n C.1 C.2.1 dX8_glimpse_40 rfl (lv_at hl 0 rfl) ?_
  refine ho_getR (a' := 53) C cf8 fH_RX8_30 hR aH_50 rfl dX8_glimpse_41 ?_
  refine lv_bipush (v := (10 : Int32)) C.1 C.2.1 dX8_glimpse_44 (by decide) ?_
  refine lv_iload C.1 C.2.1 dX8_glimpse_46 (lv_at hl 4 rfl) ?_
  obtain ⟨S7, e7, hi7, h⟩ := stI_ok h
  refine hr_ist C hR aH_53 hi7 e7 dX8_glimpse_48 (fun H locs hR => ?_)
  refine lv_aload_n C.1 C.2.1 dX8_glimpse_49 rfl (lv_at hl 0 rfl) ?_
  refine ho_getR (a' := 53) C cf8 fH_RX8_30 hR aH_50 rfl dX8_glimpse_50 ?_
  refine lv_bipush (v := (11 : Int32)) C.1 C.2.1 dX8_glimpse_53 (by decide) ?_
  refine lv_aload_n C.1 C.2.1 dX8_glimpse_55 rfl (lv_at hl 0 rfl) ?_
  obtain ⟨p8, e8, hp8, h⟩ := ldP_ok h
  refine hr_getP C cf8 fH_RX8_36 hR aH_50 e8 dX8_glimpse_56 ?_
  refine ho_getR (a' := (p8 + 12)) C cf2 fH_RX8_55 hR hp8 (pH_2_13 hp8.2) dX8_glimpse_59 ?_
  refine lv_iload_n C.1 C.2.1 dX8_glimpse_62 rfl (lv_at hl 3 rfl) ?_
  obtain ⟨v9, e9, hi9, h⟩ := ldI_ok h
  refine hr_ild C hR (rH_2_12 hp8) hi9 e9 dX8_glimpse_63 ?_
  obtain ⟨S10, e10, hi10, h⟩ := stI_ok h
  refine hr_ist C hR aH_53 hi10 e10 dX8_glimpse_64 (fun H locs hR => ?_)
  refine lv_iconst (v := (0 : Int32)) C.1 C.2.1 dX8_glimpse_65 (by decide) ?_
  refine lv_bipush (v := (99 : Int32)) C.1 C.2.1 dX8_glimpse_66 (by decide) ?_
  refine lv_aload_n C.1 C.2.1 dX8_glimpse_68 rfl (lv_at hl 0 rfl) ?_
  obtain ⟨p11, e11, hp11, h⟩ := ldP_ok h
  refine hr_getP C cf8 fH_RX8_36 hR aH_50 e11 dX8_glimpse_69 ?_
  refine ho_getR (a' := (p11 + 13)) C cf2 fH_RX8_58 hR hp11 (pH_2_14 hp11.2) dX8_glimpse_72 ?_
  refine lv_aload_n C.1 C.2.1 dX8_glimpse_75 rfl (lv_at hl 0 rfl) ?_
  refine ho_getR (a' := 53) C cf8 fH_RX8_30 hR aH_50 rfl dX8_glimpse_76 ?_
  obtain ⟨r12, S12, h12, h⟩ := ob2_ok h
  refine hr_Vi (v := r12) (S' := S12) (As := [.ref (E.2.1 53)]) (rest := [.int (99 : Int32), .int (0 : Int32)]) C cf4 (c_X4_value l E (p11 + 13) 53 40 (rH_2_13 hp11) aH_53 _ _ h12) yv_X4_value lk_RX8_62 rfl (rH_2_13 hp11) rfl rfl hl.1 (Nat.le_of_ble_eq_true rfl) (by decide) (by decide) hR (ho_A hR) dX8_glimpse_79 (fun H locs hR => ?_)
  obtain ⟨r13, S13, h13, h⟩ := ob2_ok h
  refine hr_Si (v := r13) (S' := S13) (As := [.int (99 : Int32), .int r12]) (rest := [.int (0 : Int32)]) C (c_J9_min_7cf53 l E (99 : Int32) r12 _ _ h13) ys_J9_min_7cf53 lk_RX8_66 rfl rfl hl.1 (Nat.le_of_ble_eq_true rfl) (by decide) (by decide) hR (ho_A hR) dX8_glimpse_82 (fun H locs hR => ?_)
  obtain ⟨r14, S14, h14, h⟩ := ob2_ok h
  refine hr_Si (v := r14) (S' := S14) (As := [.int (0 : Int32), .int r13]) (rest := []) C (c_J9_max_7cf53 l E (0 : Int32) r13 _ _ h14) ys_J9_max_7cf53 lk_RX8_72 rfl rfl hl.1 (Nat.le_of_ble_eq_true rfl) (by decide) (by decide) hR (ho_A hR) dX8_glimpse_85 (fun H locs hR => ?_)
  exact ho_iret C hR h dX8_glimpse_88
theorem dX8_lookAtAll_0 : decode cX8_lookAtAll 0 = .ok (.aload_n 0, 1) := by decide +kernel
theorem dX8_lookAtAll_1 : decode cX8_lookAtAll 1 = .ok (.aload_n 1, 1) := by decide +kernel
theorem dX8_lookAtAll_2 : decode cX8_lookAtAll 2 = .ok (.invokevirtual 85, 3) := by decide +kernel
theorem dX8_lookAtAll_5 : decode cX8_lookAtAll 5 = .ok (.istore_n 2, 1) := by decide +kernel
theorem dX8_lookAtAll_6 : decode cX8_lookAtAll 6 = .ok (.iconst 0, 1) := by decide +kernel
theorem dX8_lookAtAll_7 : decode cX8_lookAtAll 7 = .ok (.istore_n 3, 1) := by decide +kernel
theorem dX8_lookAtAll_8 : decode cX8_lookAtAll 8 = .ok (.iload_n 3, 1) := by decide +kernel
theorem dX8_lookAtAll_9 : decode cX8_lookAtAll 9 = .ok (.aload_n 0, 1) := by decide +kernel
theorem dX8_lookAtAll_10 : decode cX8_lookAtAll 10 = .ok (.getfield 36, 3) := by decide +kernel
theorem dX8_lookAtAll_13 : decode cX8_lookAtAll 13 = .ok (.getfield 75, 3) := by decide +kernel
theorem dX8_lookAtAll_16 : decode cX8_lookAtAll 16 = .ok (.iconst 1, 1) := by decide +kernel
theorem dX8_lookAtAll_17 : decode cX8_lookAtAll 17 = .ok (.iaload, 1) := by decide +kernel
theorem dX8_lookAtAll_18 : decode cX8_lookAtAll 18 = .ok (.if_icmp .ge 72, 3) := by decide +kernel
theorem dX8_lookAtAll_21 : decode cX8_lookAtAll 21 = .ok (.aload_n 0, 1) := by decide +kernel
theorem dX8_lookAtAll_22 : decode cX8_lookAtAll 22 = .ok (.getfield 9, 3) := by decide +kernel
theorem dX8_lookAtAll_25 : decode cX8_lookAtAll 25 = .ok (.iload_n 3, 1) := by decide +kernel
theorem dX8_lookAtAll_26 : decode cX8_lookAtAll 26 = .ok (.iconst 0, 1) := by decide +kernel
theorem dX8_lookAtAll_27 : decode cX8_lookAtAll 27 = .ok (.iastore, 1) := by decide +kernel
theorem dX8_lookAtAll_28 : decode cX8_lookAtAll 28 = .ok (.iconst 0, 1) := by decide +kernel
theorem dX8_lookAtAll_29 : decode cX8_lookAtAll 29 = .ok (.istore 4, 2) := by decide +kernel
theorem dX8_lookAtAll_31 : decode cX8_lookAtAll 31 = .ok (.iload 4, 2) := by decide +kernel
theorem dX8_lookAtAll_33 : decode cX8_lookAtAll 33 = .ok (.aload_n 0, 1) := by decide +kernel
theorem dX8_lookAtAll_34 : decode cX8_lookAtAll 34 = .ok (.getfield 36, 3) := by decide +kernel
theorem dX8_lookAtAll_37 : decode cX8_lookAtAll 37 = .ok (.getfield 75, 3) := by decide +kernel
theorem dX8_lookAtAll_40 : decode cX8_lookAtAll 40 = .ok (.iconst 2, 1) := by decide +kernel
theorem dX8_lookAtAll_41 : decode cX8_lookAtAll 41 = .ok (.iaload, 1) := by decide +kernel
theorem dX8_lookAtAll_42 : decode cX8_lookAtAll 42 = .ok (.if_icmp .ge 42, 3) := by decide +kernel
theorem dX8_lookAtAll_45 : decode cX8_lookAtAll 45 = .ok (.iload_n 2, 1) := by decide +kernel
theorem dX8_lookAtAll_46 : decode cX8_lookAtAll 46 = .ok (.iload_n 3, 1) := by decide +kernel
theorem dX8_lookAtAll_47 : decode cX8_lookAtAll 47 = .ok (.ishr, 1) := by decide +kernel
theorem dX8_lookAtAll_48 : decode cX8_lookAtAll 48 = .ok (.iconst 1, 1) := by decide +kernel
theorem dX8_lookAtAll_49 : decode cX8_lookAtAll 49 = .ok (.iand, 1) := by decide +kernel
theorem dX8_lookAtAll_50 : decode cX8_lookAtAll 50 = .ok (.iconst 1, 1) := by decide +kernel
theorem dX8_lookAtAll_51 : decode cX8_lookAtAll 51 = .ok (.if_icmp .ne 33, 3) := by decide +kernel
theorem dX8_lookAtAll_54 : decode cX8_lookAtAll 54 = .ok (.aload_n 0, 1) := by decide +kernel
theorem dX8_lookAtAll_55 : decode cX8_lookAtAll 55 = .ok (.getfield 9, 3) := by decide +kernel
theorem dX8_lookAtAll_58 : decode cX8_lookAtAll 58 = .ok (.iload_n 3, 1) := by decide +kernel
theorem dX8_lookAtAll_59 : decode cX8_lookAtAll 59 = .ok (.dup2, 1) := by decide +kernel
theorem dX8_lookAtAll_60 : decode cX8_lookAtAll 60 = .ok (.iaload, 1) := by decide +kernel
theorem dX8_lookAtAll_61 : decode cX8_lookAtAll 61 = .ok (.aload_n 0, 1) := by decide +kernel
theorem dX8_lookAtAll_62 : decode cX8_lookAtAll 62 = .ok (.aload_n 1, 1) := by decide +kernel
theorem dX8_lookAtAll_63 : decode cX8_lookAtAll 63 = .ok (.iload_n 3, 1) := by decide +kernel
theorem dX8_lookAtAll_64 : decode cX8_lookAtAll 64 = .ok (.iload 4, 2) := by decide +kernel
theorem dX8_lookAtAll_66 : decode cX8_lookAtAll 66 = .ok (.aload_n 1, 1) := by decide +kernel
theorem dX8_lookAtAll_67 : decode cX8_lookAtAll 67 = .ok (.getfield 78, 3) := by decide +kernel
theorem dX8_lookAtAll_70 : decode cX8_lookAtAll 70 = .ok (.iload 4, 2) := by decide +kernel
theorem dX8_lookAtAll_72 : decode cX8_lookAtAll 72 = .ok (.iaload, 1) := by decide +kernel
theorem dX8_lookAtAll_73 : decode cX8_lookAtAll 73 = .ok (.invokevirtual 81, 3) := by decide +kernel
theorem dX8_lookAtAll_76 : decode cX8_lookAtAll 76 = .ok (.iadd, 1) := by decide +kernel
theorem dX8_lookAtAll_77 : decode cX8_lookAtAll 77 = .ok (.iastore, 1) := by decide +kernel
theorem dX8_lookAtAll_78 : decode cX8_lookAtAll 78 = .ok (.iinc 4 1, 3) := by decide +kernel
theorem dX8_lookAtAll_81 : decode cX8_lookAtAll 81 = .ok (.goto (-50), 3) := by decide +kernel
theorem dX8_lookAtAll_84 : decode cX8_lookAtAll 84 = .ok (.iinc 3 1, 3) := by decide +kernel
theorem dX8_lookAtAll_87 : decode cX8_lookAtAll 87 = .ok (.goto (-79), 3) := by decide +kernel
theorem dX8_lookAtAll_90 : decode cX8_lookAtAll 90 = .ok (.return_, 1) := by decide +kernel
def f_X8_lookAtAll_84 (K8 : Int32 → Int32 → Hp → Option Hp) (a1 : Nat) (x2 : Int32) (x3 : Int32) (S : Hp) : Option Hp :=
  le1 (x3 + (1 : Int32)) (fun v1 => K8 x2 v1 S)
set_option maxHeartbeats 4000000 in
set_option maxRecDepth 100000 in
theorem w_X8_lookAtAll_84 {p : Program} {l : Launch} {e : Env} {s : State} {m : MethodId} {args : Array Value} {below : List Frame} {meth : Method} {c : Code} {E : Ev} {S0 : Hp} {r : Hp} (C : ho_I p s m args meth c RX8 cX8_lookAtAll 5 none) (K8 : Int32 → Int32 → Hp → Option Hp) (a1 : Nat) (ha1 : a1 ∈ yH.1 ∧ yH.2.1 a1 = (1, 9)) (hK8 : ∀ (y2 : Int32) (y3 : Int32) (S : Hp), K8 y2 y3 S = some r → ho_G p l e s m args below meth c yH E S0 4 5 (none, r) 8 [(0, .ref (E.2.1 50)), (1, .ref (E.2.1 a1)), (2, .int y2), (3, .int y3)] [] S) :
    ∀ (x2 : Int32) (x3 : Int32) (S : Hp), f_X8_lookAtAll_84 K8 a1 x2 x3 S = some r → ho_G p l e s m args below meth c yH E S0 4 5 (none, r) 84 [(0, .ref (E.2.1 50)), (1, .ref (E.2.1 a1)), (2, .int x2), (3, .int x3)] [] S := by
  intro x2 x3 S h H locs ls hR hl
  unfold f_X8_lookAtAll_84 at h
  obtain ⟨v1, e1, h⟩ := le1_ok h
  refine lv_iinc (v := v1) (lv' := [(3, .int v1), (0, .ref (E.2.1 50)), (1, .ref (E.2.1 a1)), (2, .int x2)]) C.1 C.2.1 dX8_lookAtAll_84 hl (k := 3) rfl (by rw [e1]; rfl) (by decide) rfl (fun ls hl => ?_)
  refine lv_goto (tgt := 8) C.1 C.2.1 dX8_lookAtAll_87 (by decide) ?_
  exact hK8 x2 v1 S h _ _ _ hR (lv_sub hl [1, 2, 3, 0] rfl)
def f_X8_lookAtAll_31 (K8 : Int32 → Int32 → Hp → Option Hp) (a1 : Nat) : Nat → Int32 → Int32 → Int32 → Hp → Option Hp
  | 0, _, _, _, _ => none
  | k + 1, x2, x3, x4, S => ldP yH S 50 0 2 (fun p1 => ldI S (p1 + 1) 3 (2 : Int32) (fun v2 => if v2 ≤ x4 then f_X8_lookAtAll_84 K8 a1 x2 x3 S else if ((x2 >>> (x3 &&& 31)) &&& (1 : Int32)) = (1 : Int32) then ldI S 51 6 x3 (fun v3 => ldI S (a1 + 4) 5 x4 (fun v4 => ob2 (f_X8_glimpse a1 x3 x4 v4 S) (fun r5 S5 => stI S5 51 6 x3 (v3 + r5) (fun S6 => le1 (x4 + (1 : Int32)) (fun v7 => f_X8_lookAtAll_31 K8 a1 k x2 x3 v7 S6))))) else f_X8_lookAtAll_84 K8 a1 x2 x3 S))
set_option maxHeartbeats 4000000 in
set_option maxRecDepth 100000 in
theorem w_X8_lookAtAll_31 {p : Program} {l : Launch} {e : Env} {s : State} {m : MethodId} {args : Array Value} {below : List Frame} {meth : Method} {c : Code} {E : Ev} {S0 : Hp} {r : Hp} (C : ho_I p s m args meth c RX8 cX8_lookAtAll 5 none) (K8 : Int32 → Int32 → Hp → Option Hp) (a1 : Nat) (ha1 : a1 ∈ yH.1 ∧ yH.2.1 a1 = (1, 9)) (hK8 : ∀ (y2 : Int32) (y3 : Int32) (S : Hp), K8 y2 y3 S = some r → ho_G p l e s m args below meth c yH E S0 4 5 (none, r) 8 [(0, .ref (E.2.1 50)), (1, .ref (E.2.1 a1)), (2, .int y2), (3, .int y3)] [] S) :
    ∀ (k : Nat) (x2 : Int32) (x3 : Int32) (x4 : Int32) (S : Hp), f_X8_lookAtAll_31 K8 a1 k x2 x3 x4 S = some r → ho_G p l e s m args below meth c yH E S0 4 5 (none, r) 31 [(0, .ref (E.2.1 50)), (1, .ref (E.2.1 a1)), (2, .int x2), (3, .int x3), (4, .int x4)] [] S := by
  intro k
  induction k with
  | zero =>
    intro x2 x3 x4 S h
    exact absurd (show (none : Option Hp) = some r from h) (by simp)
  | succ k ih =>
    intro x2 x3 x4 S h H locs ls hR hl
    rw [f_X8_lookAtAll_31] at h
    refine lv_iload C.1 C.2.1 dX8_lookAtAll_31 (lv_at hl 4 rfl) ?_
    refine lv_aload_n C.1 C.2.1 dX8_lookAtAll_33 rfl (lv_at hl 0 rfl) ?_
    obtain ⟨p1, e1, hp1, h⟩ := ldP_ok h
    refine hr_getP C cf8 fH_RX8_36 hR aH_50 e1 dX8_lookAtAll_34 ?_
    refine ho_getR (a' := (p1 + 1)) C cf2 fH_RX8_75 hR hp1 (pH_2_5 hp1.2) dX8_lookAtAll_37 ?_
    refine lv_iconst (v := (2 : Int32)) C.1 C.2.1 dX8_lookAtAll_40 (by decide) ?_
    obtain ⟨v2, e2, hi2, h⟩ := ldI_ok h
    refine hr_ild C hR (rH_2_1 hp1) hi2 e2 dX8_lookAtAll_41 ?_
    refine lv_icmp_ge (tgt := 84) C.1 C.2.1 dX8_lookAtAll_42 (by decide) (fun hc => ?_) (fun hc => ?_)
    · replace h := if_t h hc
      exact w_X8_lookAtAll_84 C K8 a1 ha1 hK8 x2 x3 S h _ _ _ hR (lv_sub hl [0, 1, 2, 3] rfl)
    · replace h := if_f h hc
      refine lv_iload_n C.1 C.2.1 dX8_lookAtAll_45 rfl (lv_at hl 2 rfl) ?_
      refine lv_iload_n C.1 C.2.1 dX8_lookAtAll_46 rfl (lv_at hl 3 rfl) ?_
      refine lv_ishr C.1 C.2.1 dX8_lookAtAll_47 ?_
      refine lv_iconst (v := (1 : Int32)) C.1 C.2.1 dX8_lookAtAll_48 (by decide) ?_
      refine lv_iand C.1 C.2.1 dX8_lookAtAll_49 ?_
      refine lv_iconst (v := (1 : Int32)) C.1 C.2.1 dX8_lookAtAll_50 (by decide) ?_
      refine lv_icmp_ne (tgt := 84) C.1 C.2.1 dX8_lookAtAll_51 (by decide) (fun hc => ?_) (fun hc => ?_)
      · replace h := if_f h hc
        exact w_X8_lookAtAll_84 C K8 a1 ha1 hK8 x2 x3 S h _ _ _ hR (lv_sub hl [0, 1, 2, 3] rfl)
      · replace h := if_t h hc
        refine lv_aload_n C.1 C.2.1 dX8_lookAtAll_54 rfl (lv_at hl 0 rfl) ?_
        refine ho_getR (a' := 51) C cf8 fH_RX8_9 hR aH_50 rfl dX8_lookAtAll_55 ?_
        refine lv_iload_n C.1 C.2.1 dX8_lookAtAll_58 rfl (lv_at hl 3 rfl) ?_
        refine lv_dup2_11 C.1 C.2.1 dX8_lookAtAll_59 rfl rfl ?_
        obtain ⟨v3, e3, hi3, h⟩ := ldI_ok h
        refine hr_ild C hR aH_51 hi3 e3 dX8_lookAtAll_60 ?_
        refine lv_aload_n C.1 C.2.1 dX8_lookAtAll_61 rfl (lv_at hl 0 rfl) ?_
        refine lv_aload_n C.1 C.2.1 dX8_lookAtAll_62 rfl (lv_at hl 1 rfl) ?_
        refine lv_iload_n C.1 C.2.1 dX8_lookAtAll_63 rfl (lv_at hl 3 rfl) ?_
        refine lv_iload C.1 C.2.1 dX8_lookAtAll_64 (lv_at hl 4 rfl) ?_
        refine lv_aload_n C.1 C.2.1 dX8_lookAtAll_66 rfl (lv_at hl 1 rfl) ?_
        refine ho_getR (a' := (a1 + 4)) C cf9 fH_RX8_78 hR ha1 (pH_9_6 ha1.2) dX8_lookAtAll_67 ?_
        refine lv_iload C.1 C.2.1 dX8_lookAtAll_70 (lv_at hl 4 rfl) ?_
        obtain ⟨v4, e4, hi4, h⟩ := ldI_ok h
        refine hr_ild C hR (rH_9_4 ha1) hi4 e4 dX8_lookAtAll_72 ?_
        obtain ⟨r5, S5, h5, h⟩ := ob2_ok h
        refine hr_Vi (v := r5) (S' := S5) (As := [.ref (E.2.1 a1), .int x3, .int x4, .int v4]) (rest := [.int v3, .int x3, .ref (E.2.1 51)]) C cf8 (c_X8_glimpse l E a1 x3 x4 v4 ha1 _ _ h5) yv_X8_glimpse lk_RX8_81 rfl aH_50 rfl rfl hl.1 (Nat.le_of_ble_eq_true rfl) (by decide) (by decide) hR (ho_A hR) dX8_lookAtAll_73 (fun H locs hR => ?_)
        refine lv_iadd C.1 C.2.1 dX8_lookAtAll_76 ?_
        obtain ⟨S6, e6, hi6, h⟩ := stI_ok h
        refine hr_ist C hR aH_51 hi6 e6 dX8_lookAtAll_77 (fun H locs hR => ?_)
        obtain ⟨v7, e7, h⟩ := le1_ok h
        refine lv_iinc (v := v7) (lv' := [(4, .int v7), (0, .ref (E.2.1 50)), (1, .ref (E.2.1 a1)), (2, .int x2), (3, .int x3)]) C.1 C.2.1 dX8_lookAtAll_78 hl (k := 4) rfl (by rw [e7]; rfl) (by decide) rfl (fun ls hl => ?_)
        refine lv_goto (tgt := 31) C.1 C.2.1 dX8_lookAtAll_81 (by decide) ?_
        exact ih x2 x3 v7 S6 h _ _ _ hR (lv_sub hl [1, 2, 3, 4, 0] rfl)
def f_X8_lookAtAll_8 (a1 : Nat) : Nat → Int32 → Int32 → Hp → Option Hp
  | 0, _, _, _ => none
  | k + 1, x2, x3, S => ldP yH S 50 0 2 (fun p1 => ldI S (p1 + 1) 3 (1 : Int32) (fun v2 => if v2 ≤ x3 then some S else stI S 51 6 x3 (0 : Int32) (fun S3 => f_X8_lookAtAll_31 (f_X8_lookAtAll_8 a1 k) a1 5000 x2 x3 (0 : Int32) S3)))
set_option maxHeartbeats 4000000 in
set_option maxRecDepth 100000 in
theorem w_X8_lookAtAll_8 {p : Program} {l : Launch} {e : Env} {s : State} {m : MethodId} {args : Array Value} {below : List Frame} {meth : Method} {c : Code} {E : Ev} {S0 : Hp} {r : Hp} (C : ho_I p s m args meth c RX8 cX8_lookAtAll 5 none) (a1 : Nat) (ha1 : a1 ∈ yH.1 ∧ yH.2.1 a1 = (1, 9)) :
    ∀ (k : Nat) (x2 : Int32) (x3 : Int32) (S : Hp), f_X8_lookAtAll_8 a1 k x2 x3 S = some r → ho_G p l e s m args below meth c yH E S0 4 5 (none, r) 8 [(0, .ref (E.2.1 50)), (1, .ref (E.2.1 a1)), (2, .int x2), (3, .int x3)] [] S := by
  intro k
  induction k with
  | zero =>
    intro x2 x3 S h
    exact absurd (show (none : Option Hp) = some r from h) (by simp)
  | succ k ih =>
    intro x2 x3 S h H locs ls hR hl
    rw [f_X8_lookAtAll_8] at h
    refine lv_iload_n C.1 C.2.1 dX8_lookAtAll_8 rfl (lv_at hl 3 rfl) ?_
    refine lv_aload_n C.1 C.2.1 dX8_lookAtAll_9 rfl (lv_at hl 0 rfl) ?_
    obtain ⟨p1, e1, hp1, h⟩ := ldP_ok h
    refine hr_getP C cf8 fH_RX8_36 hR aH_50 e1 dX8_lookAtAll_10 ?_
    refine ho_getR (a' := (p1 + 1)) C cf2 fH_RX8_75 hR hp1 (pH_2_5 hp1.2) dX8_lookAtAll_13 ?_
    refine lv_iconst (v := (1 : Int32)) C.1 C.2.1 dX8_lookAtAll_16 (by decide) ?_
    obtain ⟨v2, e2, hi2, h⟩ := ldI_ok h
    refine hr_ild C hR (rH_2_1 hp1) hi2 e2 dX8_lookAtAll_17 ?_
    refine lv_icmp_ge (tgt := 90) C.1 C.2.1 dX8_lookAtAll_18 (by decide) (fun hc => ?_) (fun hc => ?_)
    · replace h := if_t h hc
      exact ho_vret C hR h dX8_lookAtAll_90
    · replace h := if_f h hc
      refine lv_aload_n C.1 C.2.1 dX8_lookAtAll_21 rfl (lv_at hl 0 rfl) ?_
      refine ho_getR (a' := 51) C cf8 fH_RX8_9 hR aH_50 rfl dX8_lookAtAll_22 ?_
      refine lv_iload_n C.1 C.2.1 dX8_lookAtAll_25 rfl (lv_at hl 3 rfl) ?_
      refine lv_iconst (v := (0 : Int32)) C.1 C.2.1 dX8_lookAtAll_26 (by decide) ?_
      obtain ⟨S3, e3, hi3, h⟩ := stI_ok h
      refine hr_ist C hR aH_51 hi3 e3 dX8_lookAtAll_27 (fun H locs hR => ?_)
      refine lv_iconst (v := (0 : Int32)) C.1 C.2.1 dX8_lookAtAll_28 (by decide) ?_
      refine lv_istore (lv' := [(4, .int (0 : Int32)), (0, .ref (E.2.1 50)), (1, .ref (E.2.1 a1)), (2, .int x2), (3, .int x3)]) C.1 C.2.1 dX8_lookAtAll_29 hl (by decide) rfl (fun ls hl => ?_)
      exact w_X8_lookAtAll_31 C (f_X8_lookAtAll_8 a1 k) a1 ha1 ih 5000 x2 x3 (0 : Int32) S3 h _ _ _ hR (lv_sub hl [1, 2, 3, 4, 0] rfl)
def f_X8_lookAtAll (a1 : Nat) (S : Hp) : Option Hp :=
  ob2 (f_X8_showable a1 S) (fun r1 S1 => f_X8_lookAtAll_8 a1 5000 r1 (0 : Int32) S1)
set_option maxHeartbeats 4000000 in
set_option maxRecDepth 100000 in
theorem c_X8_lookAtAll (l : Launch) (E : Ev) (a1 : Nat) (ha1 : a1 ∈ yH.1 ∧ yH.2.1 a1 = (1, 9)) (S : Hp) (r : Hp) (h : f_X8_lookAtAll a1 S = some r) : ho_M l yH E yX8_lookAtAll cX8_lookAtAll 5 none 4 [.ref (E.2.1 50), .ref (E.2.1 a1)] S (none, r) := by
  refine ho_in (by decide) (Nat.le_of_ble_eq_true rfl) ?_
  intro p e s m args below meth c C hR ls hl
  have C : ho_I p s m args meth c RX8 cX8_lookAtAll 5 none := C
  have hl : lv_has ls 5 [(0, .ref (E.2.1 50)), (1, .ref (E.2.1 a1))] := hl
  unfold f_X8_lookAtAll at h
  refine lv_aload_n C.1 C.2.1 dX8_lookAtAll_0 rfl (lv_at hl 0 rfl) ?_
  refine lv_aload_n C.1 C.2.1 dX8_lookAtAll_1 rfl (lv_at hl 1 rfl) ?_
  obtain ⟨r1, S1, h1, h⟩ := ob2_ok h
  refine hr_Vi (v := r1) (S' := S1) (As := [.ref (E.2.1 a1)]) (rest := []) C cf8 (c_X8_showable l E a1 ha1 _ _ h1) yv_X8_showable lk_RX8_85 rfl aH_50 rfl rfl hl.1 (Nat.le_of_ble_eq_true rfl) (by decide) (by decide) hR (ho_A hR) dX8_lookAtAll_2 (fun H locs hR => ?_)
  refine lv_istore_n (lv' := [(2, .int r1), (0, .ref (E.2.1 50)), (1, .ref (E.2.1 a1))]) C.1 C.2.1 dX8_lookAtAll_5 rfl hl (by decide) rfl (fun ls hl => ?_)
  refine lv_iconst (v := (0 : Int32)) C.1 C.2.1 dX8_lookAtAll_6 (by decide) ?_
  refine lv_istore_n (lv' := [(3, .int (0 : Int32)), (2, .int r1), (0, .ref (E.2.1 50)), (1, .ref (E.2.1 a1))]) C.1 C.2.1 dX8_lookAtAll_7 rfl hl (by decide) rfl (fun ls hl => ?_)
  exact w_X8_lookAtAll_8 C a1 ha1 5000 r1 (0 : Int32) S1 h _ _ _ hR (lv_sub hl [2, 3, 1, 0] rfl)
theorem dX8_takeAll_0 : decode cX8_takeAll 0 = .ok (.aload_n 1, 1) := by decide +kernel
theorem dX8_takeAll_1 : decode cX8_takeAll 1 = .ok (.getfield 99, 3) := by decide +kernel
theorem dX8_takeAll_4 : decode cX8_takeAll 4 = .ok (.iconst 0, 1) := by decide +kernel
theorem dX8_takeAll_5 : decode cX8_takeAll 5 = .ok (.aload_n 0, 1) := by decide +kernel
theorem dX8_takeAll_6 : decode cX8_takeAll 6 = .ok (.getfield 15, 3) := by decide +kernel
theorem dX8_takeAll_9 : decode cX8_takeAll 9 = .ok (.iconst 0, 1) := by decide +kernel
theorem dX8_takeAll_10 : decode cX8_takeAll 10 = .ok (.bipush 6, 2) := by decide +kernel
theorem dX8_takeAll_12 : decode cX8_takeAll 12 = .ok (.invokestatic 115, 3) := by decide +kernel
theorem dX8_takeAll_15 : decode cX8_takeAll 15 = .ok (.iconst 0, 1) := by decide +kernel
theorem dX8_takeAll_16 : decode cX8_takeAll 16 = .ok (.istore_n 3, 1) := by decide +kernel
theorem dX8_takeAll_17 : decode cX8_takeAll 17 = .ok (.iconst 0, 1) := by decide +kernel
theorem dX8_takeAll_18 : decode cX8_takeAll 18 = .ok (.istore 4, 2) := by decide +kernel
theorem dX8_takeAll_20 : decode cX8_takeAll 20 = .ok (.iload 4, 2) := by decide +kernel
theorem dX8_takeAll_22 : decode cX8_takeAll 22 = .ok (.aload_n 0, 1) := by decide +kernel
theorem dX8_takeAll_23 : decode cX8_takeAll 23 = .ok (.getfield 36, 3) := by decide +kernel
theorem dX8_takeAll_26 : decode cX8_takeAll 26 = .ok (.getfield 75, 3) := by decide +kernel
theorem dX8_takeAll_29 : decode cX8_takeAll 29 = .ok (.iconst 1, 1) := by decide +kernel
theorem dX8_takeAll_30 : decode cX8_takeAll 30 = .ok (.iaload, 1) := by decide +kernel
theorem dX8_takeAll_31 : decode cX8_takeAll 31 = .ok (.if_icmp .ge 70, 3) := by decide +kernel
theorem dX8_takeAll_34 : decode cX8_takeAll 34 = .ok (.iload_n 2, 1) := by decide +kernel
theorem dX8_takeAll_35 : decode cX8_takeAll 35 = .ok (.iload 4, 2) := by decide +kernel
theorem dX8_takeAll_37 : decode cX8_takeAll 37 = .ok (.ishr, 1) := by decide +kernel
theorem dX8_takeAll_38 : decode cX8_takeAll 38 = .ok (.iconst 1, 1) := by decide +kernel
theorem dX8_takeAll_39 : decode cX8_takeAll 39 = .ok (.iand, 1) := by decide +kernel
theorem dX8_takeAll_40 : decode cX8_takeAll 40 = .ok (.iconst 1, 1) := by decide +kernel
theorem dX8_takeAll_41 : decode cX8_takeAll 41 = .ok (.if_icmp .ne 54, 3) := by decide +kernel
theorem dX8_takeAll_44 : decode cX8_takeAll 44 = .ok (.aload_n 0, 1) := by decide +kernel
theorem dX8_takeAll_45 : decode cX8_takeAll 45 = .ok (.getfield 36, 3) := by decide +kernel
theorem dX8_takeAll_48 : decode cX8_takeAll 48 = .ok (.getfield 102, 3) := by decide +kernel
theorem dX8_takeAll_51 : decode cX8_takeAll 51 = .ok (.iload 4, 2) := by decide +kernel
theorem dX8_takeAll_53 : decode cX8_takeAll 53 = .ok (.iaload, 1) := by decide +kernel
theorem dX8_takeAll_54 : decode cX8_takeAll 54 = .ok (.istore 5, 2) := by decide +kernel
theorem dX8_takeAll_56 : decode cX8_takeAll 56 = .ok (.aload_n 0, 1) := by decide +kernel
theorem dX8_takeAll_57 : decode cX8_takeAll 57 = .ok (.getfield 36, 3) := by decide +kernel
theorem dX8_takeAll_60 : decode cX8_takeAll 60 = .ok (.getfield 93, 3) := by decide +kernel
theorem dX8_takeAll_63 : decode cX8_takeAll 63 = .ok (.iload 4, 2) := by decide +kernel
theorem dX8_takeAll_65 : decode cX8_takeAll 65 = .ok (.iaload, 1) := by decide +kernel
theorem dX8_takeAll_66 : decode cX8_takeAll 66 = .ok (.aload_n 0, 1) := by decide +kernel
theorem dX8_takeAll_67 : decode cX8_takeAll 67 = .ok (.getfield 15, 3) := by decide +kernel
theorem dX8_takeAll_70 : decode cX8_takeAll 70 = .ok (.iload 5, 2) := by decide +kernel
theorem dX8_takeAll_72 : decode cX8_takeAll 72 = .ok (.iaload, 1) := by decide +kernel
theorem dX8_takeAll_73 : decode cX8_takeAll 73 = .ok (.invokestatic 66, 3) := by decide +kernel
theorem dX8_takeAll_76 : decode cX8_takeAll 76 = .ok (.istore 6, 2) := by decide +kernel
theorem dX8_takeAll_78 : decode cX8_takeAll 78 = .ok (.aload_n 0, 1) := by decide +kernel
theorem dX8_takeAll_79 : decode cX8_takeAll 79 = .ok (.getfield 15, 3) := by decide +kernel
theorem dX8_takeAll_82 : decode cX8_takeAll 82 = .ok (.iload 5, 2) := by decide +kernel
theorem dX8_takeAll_84 : decode cX8_takeAll 84 = .ok (.dup2, 1) := by decide +kernel
theorem dX8_takeAll_85 : decode cX8_takeAll 85 = .ok (.iaload, 1) := by decide +kernel
theorem dX8_takeAll_86 : decode cX8_takeAll 86 = .ok (.iload 6, 2) := by decide +kernel
theorem dX8_takeAll_88 : decode cX8_takeAll 88 = .ok (.isub, 1) := by decide +kernel
theorem dX8_takeAll_89 : decode cX8_takeAll 89 = .ok (.iastore, 1) := by decide +kernel
theorem dX8_takeAll_90 : decode cX8_takeAll 90 = .ok (.iload_n 3, 1) := by decide +kernel
theorem dX8_takeAll_91 : decode cX8_takeAll 91 = .ok (.iload 6, 2) := by decide +kernel
theorem dX8_takeAll_93 : decode cX8_takeAll 93 = .ok (.iadd, 1) := by decide +kernel
theorem dX8_takeAll_94 : decode cX8_takeAll 94 = .ok (.istore_n 3, 1) := by decide +kernel
theorem dX8_takeAll_95 : decode cX8_takeAll 95 = .ok (.iinc 4 1, 3) := by decide +kernel
theorem dX8_takeAll_98 : decode cX8_takeAll 98 = .ok (.goto (-78), 3) := by decide +kernel
theorem dX8_takeAll_101 : decode cX8_takeAll 101 = .ok (.iload_n 3, 1) := by decide +kernel
theorem dX8_takeAll_102 : decode cX8_takeAll 102 = .ok (.ireturn, 1) := by decide +kernel
def f_X8_takeAll_95 (K20 : Int32 → Int32 → Int32 → Hp → Option (Int32 × Hp)) (a1 : Nat) (x2 : Int32) (x3 : Int32) (x4 : Int32) (S : Hp) : Option (Int32 × Hp) :=
  le1 (x4 + (1 : Int32)) (fun v1 => K20 x2 x3 v1 S)
set_option maxHeartbeats 4000000 in
set_option maxRecDepth 100000 in
theorem w_X8_takeAll_95 {p : Program} {l : Launch} {e : Env} {s : State} {m : MethodId} {args : Array Value} {below : List Frame} {meth : Method} {c : Code} {E : Ev} {S0 : Hp} {r : (Int32 × Hp)} (C : ho_I p s m args meth c RX8 cX8_takeAll 7 (some .int)) (K20 : Int32 → Int32 → Int32 → Hp → Option (Int32 × Hp)) (a1 : Nat) (ha1 : a1 ∈ yH.1 ∧ yH.2.1 a1 = (1, 9)) (hK20 : ∀ (y2 : Int32) (y3 : Int32) (y4 : Int32) (S : Hp), K20 y2 y3 y4 S = some r → ho_G p l e s m args below meth c yH E S0 1 7 (some (.int r.1), r.2) 20 [(0, .ref (E.2.1 50)), (2, .int y2), (3, .int y3), (4, .int y4)] [] S) :
    ∀ (x2 : Int32) (x3 : Int32) (x4 : Int32) (S : Hp), f_X8_takeAll_95 K20 a1 x2 x3 x4 S = some r → ho_G p l e s m args below meth c yH E S0 1 7 (some (.int r.1), r.2) 95 [(0, .ref (E.2.1 50)), (2, .int x2), (3, .int x3), (4, .int x4)] [] S := by
  intro x2 x3 x4 S h H locs ls hR hl
  unfold f_X8_takeAll_95 at h
  obtain ⟨v1, e1, h⟩ := le1_ok h
  refine lv_iinc (v := v1) (lv' := [(4, .int v1), (0, .ref (E.2.1 50)), (2, .int x2), (3, .int x3)]) C.1 C.2.1 dX8_takeAll_95 hl (k := 3) rfl (by rw [e1]; rfl) (by decide) rfl (fun ls hl => ?_)
  refine lv_goto (tgt := 20) C.1 C.2.1 dX8_takeAll_98 (by decide) ?_
  exact hK20 x2 x3 v1 S h _ _ _ hR (lv_sub hl [1, 2, 3, 0] rfl)
def f_X8_takeAll_20 (a1 : Nat) : Nat → Int32 → Int32 → Int32 → Hp → Option (Int32 × Hp)
  | 0, _, _, _, _ => none
  | k + 1, x2, x3, x4, S => ldP yH S 50 0 2 (fun p1 => ldI S (p1 + 1) 3 (1 : Int32) (fun v2 => if v2 ≤ x4 then some (x3, S) else if ((x2 >>> (x4 &&& 31)) &&& (1 : Int32)) = (1 : Int32) then ldP yH S 50 0 2 (fun p3 => ldI S (p3 + 9) 6 x4 (fun v4 => ldP yH S 50 0 2 (fun p5 => ldI S (p5 + 8) 6 x4 (fun v6 => ldI S 52 6 v4 (fun v7 => ob2 (f_J9_min_7cf53 v6 v7 S) (fun r8 S8 => ldI S8 52 6 v4 (fun v9 => stI S8 52 6 v4 (v9 - r8) (fun S10 => le1 (x3 + r8) (fun v11 => f_X8_takeAll_95 (f_X8_takeAll_20 a1 k) a1 x2 v11 x4 S10))))))))) else f_X8_takeAll_95 (f_X8_takeAll_20 a1 k) a1 x2 x3 x4 S))
set_option maxHeartbeats 4000000 in
set_option maxRecDepth 100000 in
theorem w_X8_takeAll_20 {p : Program} {l : Launch} {e : Env} {s : State} {m : MethodId} {args : Array Value} {below : List Frame} {meth : Method} {c : Code} {E : Ev} {S0 : Hp} {r : (Int32 × Hp)} (C : ho_I p s m args meth c RX8 cX8_takeAll 7 (some .int)) (a1 : Nat) (ha1 : a1 ∈ yH.1 ∧ yH.2.1 a1 = (1, 9)) :
    ∀ (k : Nat) (x2 : Int32) (x3 : Int32) (x4 : Int32) (S : Hp), f_X8_takeAll_20 a1 k x2 x3 x4 S = some r → ho_G p l e s m args below meth c yH E S0 1 7 (some (.int r.1), r.2) 20 [(0, .ref (E.2.1 50)), (2, .int x2), (3, .int x3), (4, .int x4)] [] S := by
  intro k
  induction k with
  | zero =>
    intro x2 x3 x4 S h
    exact absurd (show (none : Option (Int32 × Hp)) = some r from h) (by simp)
  | succ k ih =>
    intro x2 x3 x4 S h H locs ls hR hl
    rw [f_X8_takeAll_20] at h
    refine lv_iload C.1 C.2.1 dX8_takeAll_20 (lv_at hl 3 rfl) ?_
    refine lv_aload_n C.1 C.2.1 dX8_takeAll_22 rfl (lv_at hl 0 rfl) ?_
    obtain ⟨p1, e1, hp1, h⟩ := ldP_ok h
    refine hr_getP C cf8 fH_RX8_36 hR aH_50 e1 dX8_takeAll_23 ?_
    refine ho_getR (a' := (p1 + 1)) C cf2 fH_RX8_75 hR hp1 (pH_2_5 hp1.2) dX8_takeAll_26 ?_
    refine lv_iconst (v := (1 : Int32)) C.1 C.2.1 dX8_takeAll_29 (by decide) ?_
    obtain ⟨v2, e2, hi2, h⟩ := ldI_ok h
    refine hr_ild C hR (rH_2_1 hp1) hi2 e2 dX8_takeAll_30 ?_
    refine lv_icmp_ge (tgt := 101) C.1 C.2.1 dX8_takeAll_31 (by decide) (fun hc => ?_) (fun hc => ?_)
    · replace h := if_t h hc
      refine lv_iload_n C.1 C.2.1 dX8_takeAll_101 rfl (lv_at hl 2 rfl) ?_
      exact ho_iret C hR h dX8_takeAll_102
    · replace h := if_f h hc
      refine lv_iload_n C.1 C.2.1 dX8_takeAll_34 rfl (lv_at hl 1 rfl) ?_
      refine lv_iload C.1 C.2.1 dX8_takeAll_35 (lv_at hl 3 rfl) ?_
      refine lv_ishr C.1 C.2.1 dX8_takeAll_37 ?_
      refine lv_iconst (v := (1 : Int32)) C.1 C.2.1 dX8_takeAll_38 (by decide) ?_
      refine lv_iand C.1 C.2.1 dX8_takeAll_39 ?_
      refine lv_iconst (v := (1 : Int32)) C.1 C.2.1 dX8_takeAll_40 (by decide) ?_
      refine lv_icmp_ne (tgt := 95) C.1 C.2.1 dX8_takeAll_41 (by decide) (fun hc => ?_) (fun hc => ?_)
      · replace h := if_f h hc
        exact w_X8_takeAll_95 C (f_X8_takeAll_20 a1 k) a1 ha1 ih x2 x3 x4 S h _ _ _ hR (lv_sub hl [0, 1, 2, 3] rfl)
      · replace h := if_t h hc
        refine lv_aload_n C.1 C.2.1 dX8_takeAll_44 rfl (lv_at hl 0 rfl) ?_
        obtain ⟨p3, e3, hp3, h⟩ := ldP_ok h
        refine hr_getP C cf8 fH_RX8_36 hR aH_50 e3 dX8_takeAll_45 ?_
        refine ho_getR (a' := (p3 + 9)) C cf2 fH_RX8_102 hR hp3 (pH_2_10 hp3.2) dX8_takeAll_48 ?_
        refine lv_iload C.1 C.2.1 dX8_takeAll_51 (lv_at hl 3 rfl) ?_
        obtain ⟨v4, e4, hi4, h⟩ := ldI_ok h
        refine hr_ild C hR (rH_2_9 hp3) hi4 e4 dX8_takeAll_53 ?_
        refine lv_istore (lv' := [(5, .int v4), (0, .ref (E.2.1 50)), (2, .int x2), (3, .int x3), (4, .int x4)]) C.1 C.2.1 dX8_takeAll_54 hl (by decide) rfl (fun ls hl => ?_)
        refine lv_aload_n C.1 C.2.1 dX8_takeAll_56 rfl (lv_at hl 1 rfl) ?_
        obtain ⟨p5, e5, hp5, h⟩ := ldP_ok h
        refine hr_getP C cf8 fH_RX8_36 hR aH_50 e5 dX8_takeAll_57 ?_
        refine ho_getR (a' := (p5 + 8)) C cf2 fH_RX8_93 hR hp5 (pH_2_9 hp5.2) dX8_takeAll_60 ?_
        refine lv_iload C.1 C.2.1 dX8_takeAll_63 (lv_at hl 4 rfl) ?_
        obtain ⟨v6, e6, hi6, h⟩ := ldI_ok h
        refine hr_ild C hR (rH_2_8 hp5) hi6 e6 dX8_takeAll_65 ?_
        refine lv_aload_n C.1 C.2.1 dX8_takeAll_66 rfl (lv_at hl 1 rfl) ?_
        refine ho_getR (a' := 52) C cf8 fH_RX8_15 hR aH_50 rfl dX8_takeAll_67 ?_
        refine lv_iload C.1 C.2.1 dX8_takeAll_70 (lv_at hl 0 rfl) ?_
        obtain ⟨v7, e7, hi7, h⟩ := ldI_ok h
        refine hr_ild C hR aH_52 hi7 e7 dX8_takeAll_72 ?_
        obtain ⟨r8, S8, h8, h⟩ := ob2_ok h
        refine hr_Si (v := r8) (S' := S8) (As := [.int v6, .int v7]) (rest := []) C (c_J9_min_7cf53 l E v6 v7 _ _ h8) ys_J9_min_7cf53 lk_RX8_66 rfl rfl hl.1 (Nat.le_of_ble_eq_true rfl) (by decide) (by decide) hR (ho_A hR) dX8_takeAll_73 (fun H locs hR => ?_)
        refine lv_istore (lv' := [(6, .int r8), (5, .int v4), (0, .ref (E.2.1 50)), (2, .int x2), (3, .int x3), (4, .int x4)]) C.1 C.2.1 dX8_takeAll_76 hl (by decide) rfl (fun ls hl => ?_)
        refine lv_aload_n C.1 C.2.1 dX8_takeAll_78 rfl (lv_at hl 2 rfl) ?_
        refine ho_getR (a' := 52) C cf8 fH_RX8_15 hR aH_50 rfl dX8_takeAll_79 ?_
        refine lv_iload C.1 C.2.1 dX8_takeAll_82 (lv_at hl 1 rfl) ?_
        refine lv_dup2_11 C.1 C.2.1 dX8_takeAll_84 rfl rfl ?_
        obtain ⟨v9, e9, hi9, h⟩ := ldI_ok h
        refine hr_ild C hR aH_52 hi9 e9 dX8_takeAll_85 ?_
        refine lv_iload C.1 C.2.1 dX8_takeAll_86 (lv_at hl 0 rfl) ?_
        refine lv_isub C.1 C.2.1 dX8_takeAll_88 ?_
        obtain ⟨S10, e10, hi10, h⟩ := stI_ok h
        refine hr_ist C hR aH_52 hi10 e10 dX8_takeAll_89 (fun H locs hR => ?_)
        refine lv_iload_n C.1 C.2.1 dX8_takeAll_90 rfl (lv_at hl 4 rfl) ?_
        refine lv_iload C.1 C.2.1 dX8_takeAll_91 (lv_at hl 0 rfl) ?_
        refine lv_iadd C.1 C.2.1 dX8_takeAll_93 ?_
        refine lv_topi (fun v11 e11 => ?_)
        replace h := le1_at e11 h
        refine lv_istore_n (lv' := [(3, .int v11), (6, .int r8), (5, .int v4), (0, .ref (E.2.1 50)), (2, .int x2), (4, .int x4)]) C.1 C.2.1 dX8_takeAll_94 rfl hl (by decide) rfl (fun ls hl => ?_)
        exact w_X8_takeAll_95 C (f_X8_takeAll_20 a1 k) a1 ha1 ih x2 v11 x4 S10 h _ _ _ hR (lv_sub hl [3, 4, 0, 5] rfl)
def f_X8_takeAll (a1 : Nat) (x2 : Int32) (S : Hp) : Option (Int32 × Hp) :=
  cpI S (a1 + 1) 6 (0 : Int32) 52 6 (0 : Int32) (6 : Int32) (fun S1 => f_X8_takeAll_20 a1 5000 x2 (0 : Int32) (0 : Int32) S1)
set_option maxHeartbeats 4000000 in
set_option maxRecDepth 100000 in
theorem c_X8_takeAll (l : Launch) (E : Ev) (a1 : Nat) (x2 : Int32) (ha1 : a1 ∈ yH.1 ∧ yH.2.1 a1 = (1, 9)) (S : Hp) (r : (Int32 × Hp)) (h : f_X8_takeAll a1 x2 S = some r) : ho_M l yH E yX8_takeAll cX8_takeAll 7 (some .int) 1 [.ref (E.2.1 50), .ref (E.2.1 a1), .int x2] S (some (.int r.1), r.2) := by
  refine ho_in (by decide) (Nat.le_of_ble_eq_true rfl) ?_
  intro p e s m args below meth c C hR ls hl
  have C : ho_I p s m args meth c RX8 cX8_takeAll 7 (some .int) := C
  have hl : lv_has ls 7 [(0, .ref (E.2.1 50)), (1, .ref (E.2.1 a1)), (2, .int x2)] := hl
  unfold f_X8_takeAll at h
  refine lv_aload_n C.1 C.2.1 dX8_takeAll_0 rfl (lv_at hl 1 rfl) ?_
  refine ho_getR (a' := (a1 + 1)) C cf9 fH_RX8_99 hR ha1 (pH_9_3 ha1.2) dX8_takeAll_1 ?_
  refine lv_iconst (v := (0 : Int32)) C.1 C.2.1 dX8_takeAll_4 (by decide) ?_
  refine lv_aload_n C.1 C.2.1 dX8_takeAll_5 rfl (lv_at hl 0 rfl) ?_
  refine ho_getR (a' := 52) C cf8 fH_RX8_15 hR aH_50 rfl dX8_takeAll_6 ?_
  refine lv_iconst (v := (0 : Int32)) C.1 C.2.1 dX8_takeAll_9 (by decide) ?_
  refine lv_bipush (v := (6 : Int32)) C.1 C.2.1 dX8_takeAll_10 (by decide) ?_
  obtain ⟨S1, e1, hh1, h⟩ := cpI_ok h
  refine hr_cpy C ac_RX8_115 hR (rH_9_1 ha1) aH_52 hh1 e1 hl.1 (Nat.le_of_ble_eq_true rfl) (by decide) dX8_takeAll_12 (fun H locs hR => ?_)
  refine lv_iconst (v := (0 : Int32)) C.1 C.2.1 dX8_takeAll_15 (by decide) ?_
  refine lv_istore_n (lv' := [(3, .int (0 : Int32)), (0, .ref (E.2.1 50)), (1, .ref (E.2.1 a1)), (2, .int x2)]) C.1 C.2.1 dX8_takeAll_16 rfl hl (by decide) rfl (fun ls hl => ?_)
  refine lv_iconst (v := (0 : Int32)) C.1 C.2.1 dX8_takeAll_17 (by decide) ?_
  refine lv_istore (lv' := [(4, .int (0 : Int32)), (3, .int (0 : Int32)), (0, .ref (E.2.1 50)), (1, .ref (E.2.1 a1)), (2, .int x2)]) C.1 C.2.1 dX8_takeAll_18 hl (by decide) rfl (fun ls hl => ?_)
  exact w_X8_takeAll_20 C a1 ha1 5000 x2 (0 : Int32) (0 : Int32) S1 h _ _ _ hR (lv_sub hl [2, 4, 1, 0] rfl)
