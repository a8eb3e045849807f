theorem dX10_isSign_0 : decode cX10_isSign 0 = .ok (.aload_n 0, 1) := by decide +kernel
theorem dX10_isSign_1 : decode cX10_isSign 1 = .ok (.getfield 25, 3) := by decide +kernel
theorem dX10_isSign_4 : decode cX10_isSign 4 = .ok (.iconst 3, 1) := by decide +kernel
theorem dX10_isSign_5 : decode cX10_isSign 5 = .ok (.if_icmp .ne 15, 3) := by decide +kernel
theorem dX10_isSign_8 : decode cX10_isSign 8 = .ok (.aload_n 0, 1) := by decide +kernel
theorem dX10_isSign_9 : decode cX10_isSign 9 = .ok (.getfield 31, 3) := by decide +kernel
theorem dX10_isSign_12 : decode cX10_isSign 12 = .ok (.iload_n 1, 1) := by decide +kernel
theorem dX10_isSign_13 : decode cX10_isSign 13 = .ok (.if_icmp .ne 7, 3) := by decide +kernel
theorem dX10_isSign_16 : decode cX10_isSign 16 = .ok (.iconst 1, 1) := by decide +kernel
theorem dX10_isSign_17 : decode cX10_isSign 17 = .ok (.goto 4, 3) := by decide +kernel
theorem dX10_isSign_20 : decode cX10_isSign 20 = .ok (.iconst 0, 1) := by decide +kernel
theorem dX10_isSign_21 : decode cX10_isSign 21 = .ok (.ireturn, 1) := by decide +kernel
def f_X10_isSign (x1 : Int32) (S : Hp) : Option (Int32 × Hp) :=
  if (S.1 10 4) = (3 : Int32) then if (S.1 10 6) = x1 then some ((1 : Int32), S) else some ((0 : Int32), S) else some ((0 : Int32), S)
set_option maxHeartbeats 4000000 in
set_option maxRecDepth 100000 in
theorem c_X10_isSign (l : Launch) (E : Ev) (x1 : Int32) (S : Hp) (r : (Int32 × Hp)) (h : f_X10_isSign x1 S = some r) : ho_M l yH E yX10_isSign cX10_isSign 2 (some .boolean) 0 [.ref (E.2.1 10), .int x1] S (some (.int r.1), r.2) := by
  refine ho_in (by decide) (Nat.le_of_ble_eq_true rfl) ?_
  intro p e s m args below meth c C hR ls hl
  have C : ho_I p s m args meth c RX10 cX10_isSign 2 (some .boolean) := C
  have hl : lv_has ls 2 [(0, .ref (E.2.1 10)), (1, .int x1)] := hl
  unfold f_X10_isSign at h
  refine lv_aload_n C.1 C.2.1 dX10_isSign_0 rfl (lv_at hl 0 rfl) ?_
  refine ho_getI C cf10 fH_RX10_25 hR aH_10 dX10_isSign_1 ?_
  refine lv_iconst (v := (3 : Int32)) C.1 C.2.1 dX10_isSign_4 (by decide) ?_
  refine lv_icmp_ne (tgt := 20) C.1 C.2.1 dX10_isSign_5 (by decide) (fun hc => ?_) (fun hc => ?_)
  · replace h := if_f h hc
    refine lv_iconst (v := (0 : Int32)) C.1 C.2.1 dX10_isSign_20 (by decide) ?_
    exact ho_zret C hR (Or.inl rfl) h dX10_isSign_21
  · replace h := if_t h hc
    refine lv_aload_n C.1 C.2.1 dX10_isSign_8 rfl (lv_at hl 0 rfl) ?_
    refine ho_getI C cf10 fH_RX10_31 hR aH_10 dX10_isSign_9 ?_
    refine lv_iload_n C.1 C.2.1 dX10_isSign_12 rfl (lv_at hl 1 rfl) ?_
    refine lv_icmp_ne (tgt := 20) C.1 C.2.1 dX10_isSign_13 (by decide) (fun hc => ?_) (fun hc => ?_)
    · replace h := if_f h hc
      refine lv_iconst (v := (0 : Int32)) C.1 C.2.1 dX10_isSign_20 (by decide) ?_
      exact ho_zret C hR (Or.inl rfl) h dX10_isSign_21
    · replace h := if_t h hc
      refine lv_iconst (v := (1 : Int32)) C.1 C.2.1 dX10_isSign_16 (by decide) ?_
      refine lv_goto (tgt := 21) C.1 C.2.1 dX10_isSign_17 (by decide) ?_
      exact ho_zret C hR (Or.inr rfl) h dX10_isSign_21
theorem dX10_takeSign_0 : decode cX10_takeSign 0 = .ok (.aload_n 0, 1) := by decide +kernel
theorem dX10_takeSign_1 : decode cX10_takeSign 1 = .ok (.iload_n 1, 1) := by decide +kernel
theorem dX10_takeSign_2 : decode cX10_takeSign 2 = .ok (.invokevirtual 72, 3) := by decide +kernel
theorem dX10_takeSign_5 : decode cX10_takeSign 5 = .ok (.ifCond .ne 13, 3) := by decide +kernel
theorem dX10_takeSign_8 : decode cX10_takeSign 8 = .ok (.aload_n 0, 1) := by decide +kernel
theorem dX10_takeSign_9 : decode cX10_takeSign 9 = .ok (.iconst 1, 1) := by decide +kernel
theorem dX10_takeSign_10 : decode cX10_takeSign 10 = .ok (.aload_n 0, 1) := by decide +kernel
theorem dX10_takeSign_11 : decode cX10_takeSign 11 = .ok (.getfield 28, 3) := by decide +kernel
theorem dX10_takeSign_14 : decode cX10_takeSign 14 = .ok (.invokevirtual 68, 3) := by decide +kernel
theorem dX10_takeSign_17 : decode cX10_takeSign 17 = .ok (.ireturn, 1) := by decide +kernel
theorem dX10_takeSign_18 : decode cX10_takeSign 18 = .ok (.aload_n 0, 1) := by decide +kernel
theorem dX10_takeSign_19 : decode cX10_takeSign 19 = .ok (.invokevirtual 55, 3) := by decide +kernel
theorem dX10_takeSign_22 : decode cX10_takeSign 22 = .ok (.iconst 1, 1) := by decide +kernel
theorem dX10_takeSign_23 : decode cX10_takeSign 23 = .ok (.ireturn, 1) := by decide +kernel
def f_X10_takeSign (x1 : Int32) (S : Hp) : Option (Int32 × Hp) :=
  ob2 (f_X10_isSign x1 S) (fun r1 S1 => if r1 = 0 then ob2 (f_X10_wrong (1 : Int32) (S1.1 10 5) S1) (fun r3 S3 => tr r3 (some (r3, S3))) else ob (f_X10_next S1) (fun S2 => some ((1 : Int32), S2)))
set_option maxHeartbeats 4000000 in
set_option maxRecDepth 100000 in
theorem c_X10_takeSign (l : Launch) (E : Ev) (x1 : Int32) (S : Hp) (r : (Int32 × Hp)) (h : f_X10_takeSign x1 S = some r) : ho_M l yH E yX10_takeSign cX10_takeSign 2 (some .boolean) 2 [.ref (E.2.1 10), .int x1] S (some (.int r.1), r.2) := by
  refine ho_in (by decide) (Nat.le_of_ble_eq_true rfl) ?_
  intro p e s m args below meth c C hR ls hl
  have C : ho_I p s m args meth c RX10 cX10_takeSign 2 (some .boolean) := C
  have hl : lv_has ls 2 [(0, .ref (E.2.1 10)), (1, .int x1)] := hl
  unfold f_X10_takeSign at h
  refine lv_aload_n C.1 C.2.1 dX10_takeSign_0 rfl (lv_at hl 0 rfl) ?_
  refine lv_iload_n C.1 C.2.1 dX10_takeSign_1 rfl (lv_at hl 1 rfl) ?_
  obtain ⟨r1, S1, h1, h⟩ := ob2_ok h
  refine hr_Vi (v := r1) (S' := S1) (As := [.int x1]) (rest := []) C cf10 (c_X10_isSign l E x1 _ _ h1) yv_X10_isSign lk_RX10_72 rfl aH_10 rfl rfl hl.1 (Nat.le_of_ble_eq_true rfl) (by decide) (by decide) hR (ho_A hR) dX10_takeSign_2 (fun H locs hR => ?_)
  refine lv_if_ne (tgt := 18) C.1 C.2.1 dX10_takeSign_5 (by decide) (fun hc => ?_) (fun hc => ?_)
  · replace h := if_f h hc
    refine lv_aload_n C.1 C.2.1 dX10_takeSign_18 rfl (lv_at hl 0 rfl) ?_
    obtain ⟨S2, h2, h⟩ := ob_ok h
    refine hr_Vv (S' := S2) (As := []) (rest := []) C cf10 (c_X10_next l E _ _ h2) yv_X10_next lk_RX10_55 rfl aH_10 rfl rfl hl.1 (Nat.le_of_ble_eq_true rfl) (by decide) (by decide) hR (ho_A hR) dX10_takeSign_19 (fun H locs hR => ?_)
    refine lv_iconst (v := (1 : Int32)) C.1 C.2.1 dX10_takeSign_22 (by decide) ?_
    exact ho_zret C hR (Or.inr rfl) h dX10_takeSign_23
  · replace h := if_t h hc
    refine lv_aload_n C.1 C.2.1 dX10_takeSign_8 rfl (lv_at hl 0 rfl) ?_
    refine lv_iconst (v := (1 : Int32)) C.1 C.2.1 dX10_takeSign_9 (by decide) ?_
    refine lv_aload_n C.1 C.2.1 dX10_takeSign_10 rfl (lv_at hl 0 rfl) ?_
    refine ho_getI C cf10 fH_RX10_28 hR aH_10 dX10_takeSign_11 ?_
    obtain ⟨r3, S3, h3, h⟩ := ob2_ok h
    refine hr_Vi (v := r3) (S' := S3) (As := [.int (1 : Int32), .int (S1.1 10 5)]) (rest := []) C cf10 (c_X10_wrong l E (1 : Int32) (S1.1 10 5) _ _ h3) yv_X10_wrong lk_RX10_68 rfl aH_10 rfl rfl hl.1 (Nat.le_of_ble_eq_true rfl) (by decide) (by decide) hR (ho_A hR) dX10_takeSign_14 (fun H locs hR => ?_)
    obtain ⟨hz, h⟩ := tr_ok h
    exact ho_zret C hR hz h dX10_takeSign_17
theorem dX10_nameHere_0 : decode cX10_nameHere 0 = .ok (.aload_n 0, 1) := by decide +kernel
theorem dX10_nameHere_1 : decode cX10_nameHere 1 = .ok (.getfield 25, 3) := by decide +kernel
theorem dX10_nameHere_4 : decode cX10_nameHere 4 = .ok (.iconst 1, 1) := by decide +kernel
theorem dX10_nameHere_5 : decode cX10_nameHere 5 = .ok (.if_icmp .eq 13, 3) := by decide +kernel
theorem dX10_nameHere_8 : decode cX10_nameHere 8 = .ok (.aload_n 0, 1) := by decide +kernel
theorem dX10_nameHere_9 : decode cX10_nameHere 9 = .ok (.iconst 1, 1) := by decide +kernel
theorem dX10_nameHere_10 : decode cX10_nameHere 10 = .ok (.aload_n 0, 1) := by decide +kernel
theorem dX10_nameHere_11 : decode cX10_nameHere 11 = .ok (.getfield 28, 3) := by decide +kernel
theorem dX10_nameHere_14 : decode cX10_nameHere 14 = .ok (.invokevirtual 68, 3) := by decide +kernel
theorem dX10_nameHere_17 : decode cX10_nameHere 17 = .ok (.ireturn, 1) := by decide +kernel
theorem dX10_nameHere_18 : decode cX10_nameHere 18 = .ok (.aload_n 0, 1) := by decide +kernel
theorem dX10_nameHere_19 : decode cX10_nameHere 19 = .ok (.getfield 40, 3) := by decide +kernel
theorem dX10_nameHere_22 : decode cX10_nameHere 22 = .ok (.aload_n 0, 1) := by decide +kernel
theorem dX10_nameHere_23 : decode cX10_nameHere 23 = .ok (.getfield 28, 3) := by decide +kernel
theorem dX10_nameHere_26 : decode cX10_nameHere 26 = .ok (.isub, 1) := by decide +kernel
theorem dX10_nameHere_27 : decode cX10_nameHere 27 = .ok (.bipush 6, 2) := by decide +kernel
theorem dX10_nameHere_29 : decode cX10_nameHere 29 = .ok (.if_icmp .le 16, 3) := by decide +kernel
theorem dX10_nameHere_32 : decode cX10_nameHere 32 = .ok (.aload_n 0, 1) := by decide +kernel
theorem dX10_nameHere_33 : decode cX10_nameHere 33 = .ok (.iconst 1, 1) := by decide +kernel
theorem dX10_nameHere_34 : decode cX10_nameHere 34 = .ok (.aload_n 0, 1) := by decide +kernel
theorem dX10_nameHere_35 : decode cX10_nameHere 35 = .ok (.getfield 28, 3) := by decide +kernel
theorem dX10_nameHere_38 : decode cX10_nameHere 38 = .ok (.bipush 6, 2) := by decide +kernel
theorem dX10_nameHere_40 : decode cX10_nameHere 40 = .ok (.iadd, 1) := by decide +kernel
theorem dX10_nameHere_41 : decode cX10_nameHere 41 = .ok (.invokevirtual 68, 3) := by decide +kernel
theorem dX10_nameHere_44 : decode cX10_nameHere 44 = .ok (.ireturn, 1) := by decide +kernel
theorem dX10_nameHere_45 : decode cX10_nameHere 45 = .ok (.aload_n 0, 1) := by decide +kernel
theorem dX10_nameHere_46 : decode cX10_nameHere 46 = .ok (.getfield 31, 3) := by decide +kernel
theorem dX10_nameHere_49 : decode cX10_nameHere 49 = .ok (.ifCond .lt 22, 3) := by decide +kernel
theorem dX10_nameHere_52 : decode cX10_nameHere 52 = .ok (.aload_n 0, 1) := by decide +kernel
theorem dX10_nameHere_53 : decode cX10_nameHere 53 = .ok (.getfield 31, 3) := by decide +kernel
theorem dX10_nameHere_56 : decode cX10_nameHere 56 = .ok (.bipush 29, 2) := by decide +kernel
theorem dX10_nameHere_58 : decode cX10_nameHere 58 = .ok (.if_icmp .ge 13, 3) := by decide +kernel
theorem dX10_nameHere_61 : decode cX10_nameHere 61 = .ok (.aload_n 0, 1) := by decide +kernel
theorem dX10_nameHere_62 : decode cX10_nameHere 62 = .ok (.iconst 1, 1) := by decide +kernel
theorem dX10_nameHere_63 : decode cX10_nameHere 63 = .ok (.aload_n 0, 1) := by decide +kernel
theorem dX10_nameHere_64 : decode cX10_nameHere 64 = .ok (.getfield 28, 3) := by decide +kernel
theorem dX10_nameHere_67 : decode cX10_nameHere 67 = .ok (.invokevirtual 68, 3) := by decide +kernel
theorem dX10_nameHere_70 : decode cX10_nameHere 70 = .ok (.ireturn, 1) := by decide +kernel
theorem dX10_nameHere_71 : decode cX10_nameHere 71 = .ok (.iconst 1, 1) := by decide +kernel
theorem dX10_nameHere_72 : decode cX10_nameHere 72 = .ok (.ireturn, 1) := by decide +kernel
def f_X10_nameHere (S : Hp) : Option (Int32 × Hp) :=
  if (S.1 10 4) = (1 : Int32) then if ((S.1 10 9) - (S.1 10 5)) ≤ (6 : Int32) then if (S.1 10 6) < 0 then some ((1 : Int32), S) else if (29 : Int32) ≤ (S.1 10 6) then some ((1 : Int32), S) else ob2 (f_X10_wrong (1 : Int32) (S.1 10 5) S) (fun r1 S1 => tr r1 (some (r1, S1))) else ob2 (f_X10_wrong (1 : Int32) ((S.1 10 5) + (6 : Int32)) S) (fun r2 S2 => tr r2 (some (r2, S2))) else ob2 (f_X10_wrong (1 : Int32) (S.1 10 5) S) (fun r3 S3 => tr r3 (some (r3, S3)))
set_option maxHeartbeats 4000000 in
set_option maxRecDepth 100000 in
theorem c_X10_nameHere (l : Launch) (E : Ev) (S : Hp) (r : (Int32 × Hp)) (h : f_X10_nameHere S = some r) : ho_M l yH E yX10_nameHere cX10_nameHere 1 (some .boolean) 1 [.ref (E.2.1 10)] S (some (.int r.1), r.2) := by
  refine ho_in (by decide) (Nat.le_of_ble_eq_true rfl) ?_
  intro p e s m args below meth c C hR ls hl
  have C : ho_I p s m args meth c RX10 cX10_nameHere 1 (some .boolean) := C
  have hl : lv_has ls 1 [(0, .ref (E.2.1 10))] := hl
  unfold f_X10_nameHere at h
  refine lv_aload_n C.1 C.2.1 dX10_nameHere_0 rfl (lv_at hl 0 rfl) ?_
  refine ho_getI C cf10 fH_RX10_25 hR aH_10 dX10_nameHere_1 ?_
  refine lv_iconst (v := (1 : Int32)) C.1 C.2.1 dX10_nameHere_4 (by decide) ?_
  refine lv_icmp_eq (tgt := 18) C.1 C.2.1 dX10_nameHere_5 (by decide) (fun hc => ?_) (fun hc => ?_)
  · replace h := if_t h hc
    refine lv_aload_n C.1 C.2.1 dX10_nameHere_18 rfl (lv_at hl 0 rfl) ?_
    refine ho_getI C cf10 fH_RX10_40 hR aH_10 dX10_nameHere_19 ?_
    refine lv_aload_n C.1 C.2.1 dX10_nameHere_22 rfl (lv_at hl 0 rfl) ?_
    refine ho_getI C cf10 fH_RX10_28 hR aH_10 dX10_nameHere_23 ?_
    refine lv_isub C.1 C.2.1 dX10_nameHere_26 ?_
    refine lv_bipush (v := (6 : Int32)) C.1 C.2.1 dX10_nameHere_27 (by decide) ?_
    refine lv_icmp_le (tgt := 45) C.1 C.2.1 dX10_nameHere_29 (by decide) (fun hc => ?_) (fun hc => ?_)
    · replace h := if_t h hc
      refine lv_aload_n C.1 C.2.1 dX10_nameHere_45 rfl (lv_at hl 0 rfl) ?_
      refine ho_getI C cf10 fH_RX10_31 hR aH_10 dX10_nameHere_46 ?_
      refine lv_if_lt (tgt := 71) C.1 C.2.1 dX10_nameHere_49 (by decide) (fun hc => ?_) (fun hc => ?_)
      · replace h := if_t h hc
        refine lv_iconst (v := (1 : Int32)) C.1 C.2.1 dX10_nameHere_71 (by decide) ?_
        exact ho_zret C hR (Or.inr rfl) h dX10_nameHere_72
      · replace h := if_f h hc
        refine lv_aload_n C.1 C.2.1 dX10_nameHere_52 rfl (lv_at hl 0 rfl) ?_
        refine ho_getI C cf10 fH_RX10_31 hR aH_10 dX10_nameHere_53 ?_
        refine lv_bipush (v := (29 : Int32)) C.1 C.2.1 dX10_nameHere_56 (by decide) ?_
        refine lv_icmp_ge (tgt := 71) C.1 C.2.1 dX10_nameHere_58 (by decide) (fun hc => ?_) (fun hc => ?_)
        · replace h := if_t h hc
          refine lv_iconst (v := (1 : Int32)) C.1 C.2.1 dX10_nameHere_71 (by decide) ?_
          exact ho_zret C hR (Or.inr rfl) h dX10_nameHere_72
        · replace h := if_f h hc
          refine lv_aload_n C.1 C.2.1 dX10_nameHere_61 rfl (lv_at hl 0 rfl) ?_
          refine lv_iconst (v := (1 : Int32)) C.1 C.2.1 dX10_nameHere_62 (by decide) ?_
          refine lv_aload_n C.1 C.2.1 dX10_nameHere_63 rfl (lv_at hl 0 rfl) ?_
          refine ho_getI C cf10 fH_RX10_28 hR aH_10 dX10_nameHere_64 ?_
          obtain ⟨r1, S1, h1, h⟩ := ob2_ok h
          refine hr_Vi (v := r1) (S' := S1) (As := [.int (1 : Int32), .int (S.1 10 5)]) (rest := []) C cf10 (c_X10_wrong l E (1 : Int32) (S.1 10 5) _ _ h1) yv_X10_wrong lk_RX10_68 rfl aH_10 rfl rfl hl.1 (Nat.le_of_ble_eq_true rfl) (by decide) (by decide) hR (ho_A hR) dX10_nameHere_67 (fun H locs hR => ?_)
          obtain ⟨hz, h⟩ := tr_ok h
          exact ho_zret C hR hz h dX10_nameHere_70
    · replace h := if_f h hc
      refine lv_aload_n C.1 C.2.1 dX10_nameHere_32 rfl (lv_at hl 0 rfl) ?_
      refine lv_iconst (v := (1 : Int32)) C.1 C.2.1 dX10_nameHere_33 (by decide) ?_
      refine lv_aload_n C.1 C.2.1 dX10_nameHere_34 rfl (lv_at hl 0 rfl) ?_
      refine ho_getI C cf10 fH_RX10_28 hR aH_10 dX10_nameHere_35 ?_
      refine lv_bipush (v := (6 : Int32)) C.1 C.2.1 dX10_nameHere_38 (by decide) ?_
      refine lv_iadd C.1 C.2.1 dX10_nameHere_40 ?_
      obtain ⟨r2, S2, h2, h⟩ := ob2_ok h
      refine hr_Vi (v := r2) (S' := S2) (As := [.int (1 : Int32), .int ((S.1 10 5) + (6 : Int32))]) (rest := []) C cf10 (c_X10_wrong l E (1 : Int32) ((S.1 10 5) + (6 : Int32)) _ _ h2) yv_X10_wrong lk_RX10_68 rfl aH_10 rfl rfl hl.1 (Nat.le_of_ble_eq_true rfl) (by decide) (by decide) hR (ho_A hR) dX10_nameHere_41 (fun H locs hR => ?_)
      obtain ⟨hz, h⟩ := tr_ok h
      exact ho_zret C hR hz h dX10_nameHere_44
  · replace h := if_f h hc
    refine lv_aload_n C.1 C.2.1 dX10_nameHere_8 rfl (lv_at hl 0 rfl) ?_
    refine lv_iconst (v := (1 : Int32)) C.1 C.2.1 dX10_nameHere_9 (by decide) ?_
    refine lv_aload_n C.1 C.2.1 dX10_nameHere_10 rfl (lv_at hl 0 rfl) ?_
    refine ho_getI C cf10 fH_RX10_28 hR aH_10 dX10_nameHere_11 ?_
    obtain ⟨r3, S3, h3, h⟩ := ob2_ok h
    refine hr_Vi (v := r3) (S' := S3) (As := [.int (1 : Int32), .int (S.1 10 5)]) (rest := []) C cf10 (c_X10_wrong l E (1 : Int32) (S.1 10 5) _ _ h3) yv_X10_wrong lk_RX10_68 rfl aH_10 rfl rfl hl.1 (Nat.le_of_ble_eq_true rfl) (by decide) (by decide) hR (ho_A hR) dX10_nameHere_14 (fun H locs hR => ?_)
    obtain ⟨hz, h⟩ := tr_ok h
    exact ho_zret C hR hz h dX10_nameHere_17
theorem dX3_oneMore_0 : decode cX3_oneMore 0 = .ok (.aload_n 0, 1) := by decide +kernel
theorem dX3_oneMore_1 : decode cX3_oneMore 1 = .ok (.getfield 24, 3) := by decide +kernel
theorem dX3_oneMore_4 : decode cX3_oneMore 4 = .ok (.getfield 122, 3) := by decide +kernel
theorem dX3_oneMore_7 : decode cX3_oneMore 7 = .ok (.iload_n 1, 1) := by decide +kernel
theorem dX3_oneMore_8 : decode cX3_oneMore 8 = .ok (.iaload, 1) := by decide +kernel
theorem dX3_oneMore_9 : decode cX3_oneMore 9 = .ok (.istore_n 3, 1) := by decide +kernel
theorem dX3_oneMore_10 : decode cX3_oneMore 10 = .ok (.iload_n 3, 1) := by decide +kernel
theorem dX3_oneMore_11 : decode cX3_oneMore 11 = .ok (.iload_n 2, 1) := by decide +kernel
theorem dX3_oneMore_12 : decode cX3_oneMore 12 = .ok (.if_icmp .lt 19, 3) := by decide +kernel
theorem dX3_oneMore_15 : decode cX3_oneMore 15 = .ok (.aload_n 0, 1) := by decide +kernel
theorem dX3_oneMore_16 : decode cX3_oneMore 16 = .ok (.getfield 20, 3) := by decide +kernel
theorem dX3_oneMore_19 : decode cX3_oneMore 19 = .ok (.iconst 5, 1) := by decide +kernel
theorem dX3_oneMore_20 : decode cX3_oneMore 20 = .ok (.aload_n 0, 1) := by decide +kernel
theorem dX3_oneMore_21 : decode cX3_oneMore 21 = .ok (.getfield 20, 3) := by decide +kernel
theorem dX3_oneMore_24 : decode cX3_oneMore 24 = .ok (.getfield 63, 3) := by decide +kernel
theorem dX3_oneMore_27 : decode cX3_oneMore 27 = .ok (.invokevirtual 66, 3) := by decide +kernel
theorem dX3_oneMore_30 : decode cX3_oneMore 30 = .ok (.ireturn, 1) := by decide +kernel
theorem dX3_oneMore_31 : decode cX3_oneMore 31 = .ok (.aload_n 0, 1) := by decide +kernel
theorem dX3_oneMore_32 : decode cX3_oneMore 32 = .ok (.getfield 20, 3) := by decide +kernel
theorem dX3_oneMore_35 : decode cX3_oneMore 35 = .ok (.invokevirtual 126, 3) := by decide +kernel
theorem dX3_oneMore_38 : decode cX3_oneMore 38 = .ok (.aload_n 0, 1) := by decide +kernel
theorem dX3_oneMore_39 : decode cX3_oneMore 39 = .ok (.getfield 20, 3) := by decide +kernel
theorem dX3_oneMore_42 : decode cX3_oneMore 42 = .ok (.invokevirtual 129, 3) := by decide +kernel
theorem dX3_oneMore_45 : decode cX3_oneMore 45 = .ok (.ifCond .ne 5, 3) := by decide +kernel
theorem dX3_oneMore_48 : decode cX3_oneMore 48 = .ok (.iconst 0, 1) := by decide +kernel
theorem dX3_oneMore_49 : decode cX3_oneMore 49 = .ok (.ireturn, 1) := by decide +kernel
theorem dX3_oneMore_50 : decode cX3_oneMore 50 = .ok (.iconst 0, 1) := by decide +kernel
theorem dX3_oneMore_51 : decode cX3_oneMore 51 = .ok (.istore 4, 2) := by decide +kernel
theorem dX3_oneMore_53 : decode cX3_oneMore 53 = .ok (.iload 4, 2) := by decide +kernel
theorem dX3_oneMore_55 : decode cX3_oneMore 55 = .ok (.iconst 3, 1) := by decide +kernel
theorem dX3_oneMore_56 : decode cX3_oneMore 56 = .ok (.if_icmp .ge 45, 3) := by decide +kernel
theorem dX3_oneMore_59 : decode cX3_oneMore 59 = .ok (.aload_n 0, 1) := by decide +kernel
theorem dX3_oneMore_60 : decode cX3_oneMore 60 = .ok (.getfield 24, 3) := by decide +kernel
theorem dX3_oneMore_63 : decode cX3_oneMore 63 = .ok (.iload 4, 2) := by decide +kernel
theorem dX3_oneMore_65 : decode cX3_oneMore 65 = .ok (.aload_n 0, 1) := by decide +kernel
theorem dX3_oneMore_66 : decode cX3_oneMore 66 = .ok (.getfield 20, 3) := by decide +kernel
theorem dX3_oneMore_69 : decode cX3_oneMore 69 = .ok (.getfield 132, 3) := by decide +kernel
theorem dX3_oneMore_72 : decode cX3_oneMore 72 = .ok (.invokevirtual 135, 3) := by decide +kernel
theorem dX3_oneMore_75 : decode cX3_oneMore 75 = .ok (.iconst (-1), 1) := by decide +kernel
theorem dX3_oneMore_76 : decode cX3_oneMore 76 = .ok (.if_icmp .eq 19, 3) := by decide +kernel
theorem dX3_oneMore_79 : decode cX3_oneMore 79 = .ok (.aload_n 0, 1) := by decide +kernel
theorem dX3_oneMore_80 : decode cX3_oneMore 80 = .ok (.getfield 20, 3) := by decide +kernel
theorem dX3_oneMore_83 : decode cX3_oneMore 83 = .ok (.iconst 3, 1) := by decide +kernel
theorem dX3_oneMore_84 : decode cX3_oneMore 84 = .ok (.aload_n 0, 1) := by decide +kernel
theorem dX3_oneMore_85 : decode cX3_oneMore 85 = .ok (.getfield 20, 3) := by decide +kernel
theorem dX3_oneMore_88 : decode cX3_oneMore 88 = .ok (.getfield 63, 3) := by decide +kernel
theorem dX3_oneMore_91 : decode cX3_oneMore 91 = .ok (.invokevirtual 66, 3) := by decide +kernel
theorem dX3_oneMore_94 : decode cX3_oneMore 94 = .ok (.ireturn, 1) := by decide +kernel
theorem dX3_oneMore_95 : decode cX3_oneMore 95 = .ok (.iinc 4 1, 3) := by decide +kernel
theorem dX3_oneMore_98 : decode cX3_oneMore 98 = .ok (.goto (-45), 3) := by decide +kernel
theorem dX3_oneMore_101 : decode cX3_oneMore 101 = .ok (.aload_n 0, 1) := by decide +kernel
theorem dX3_oneMore_102 : decode cX3_oneMore 102 = .ok (.getfield 24, 3) := by decide +kernel
theorem dX3_oneMore_105 : decode cX3_oneMore 105 = .ok (.getfield 139, 3) := by decide +kernel
theorem dX3_oneMore_108 : decode cX3_oneMore 108 = .ok (.iload_n 1, 1) := by decide +kernel
theorem dX3_oneMore_109 : decode cX3_oneMore 109 = .ok (.aaload, 1) := by decide +kernel
theorem dX3_oneMore_110 : decode cX3_oneMore 110 = .ok (.iload_n 3, 1) := by decide +kernel
theorem dX3_oneMore_111 : decode cX3_oneMore 111 = .ok (.aload_n 0, 1) := by decide +kernel
theorem dX3_oneMore_112 : decode cX3_oneMore 112 = .ok (.getfield 20, 3) := by decide +kernel
theorem dX3_oneMore_115 : decode cX3_oneMore 115 = .ok (.getfield 132, 3) := by decide +kernel
theorem dX3_oneMore_118 : decode cX3_oneMore 118 = .ok (.iastore, 1) := by decide +kernel
theorem dX3_oneMore_119 : decode cX3_oneMore 119 = .ok (.aload_n 0, 1) := by decide +kernel
theorem dX3_oneMore_120 : decode cX3_oneMore 120 = .ok (.getfield 20, 3) := by decide +kernel
theorem dX3_oneMore_123 : decode cX3_oneMore 123 = .ok (.invokevirtual 126, 3) := by decide +kernel
theorem dX3_oneMore_126 : decode cX3_oneMore 126 = .ok (.iconst 1, 1) := by decide +kernel
theorem dX3_oneMore_127 : decode cX3_oneMore 127 = .ok (.ireturn, 1) := by decide +kernel
def f_X3_oneMore_53 : Nat → Int32 → Int32 → Int32 → Hp → Option (Int32 × Hp)
  | 0, _, _, _, _ => none
  | k + 1, x1, x3, x4, S => if (3 : Int32) ≤ x4 then ldP yH S 20 2 2 (fun p1 => ldR yH (p1 + 2) 3 x1 4 6 (fun p2 => stI S p2 6 x3 (S.1 10 7) (fun S3 => ob (f_X10_next S3) (fun S4 => some ((1 : Int32), S4))))) else ldP yH S 20 2 2 (fun p5 => ob2 (f_X2_numberOf p5 x4 (S.1 10 7) S) (fun r6 S6 => if r6 = (-1 : Int32) then le1 (x4 + (1 : Int32)) (fun v7 => f_X3_oneMore_53 k x1 x3 v7 S6) else ob2 (f_X10_wrong (3 : Int32) (S6.1 10 5) S6) (fun r8 S8 => tr r8 (some (r8, S8)))))
set_option maxHeartbeats 4000000 in
set_option maxRecDepth 100000 in
theorem w_X3_oneMore_53 {p : Program} {l : Launch} {e : Env} {s : State} {m : MethodId} {args : Array Value} {below : List Frame} {meth : Method} {c : Code} {E : Ev} {S0 : Hp} {r : (Int32 × Hp)} (C : ho_I p s m args meth c RX3 cX3_oneMore 5 (some .boolean)) :
    ∀ (k : Nat) (x1 : Int32) (x3 : Int32) (x4 : Int32) (S : Hp), f_X3_oneMore_53 k x1 x3 x4 S = some r → ho_G p l e s m args below meth c yH E S0 2 5 (some (.int r.1), r.2) 53 [(0, .ref (E.2.1 20)), (1, .int x1), (3, .int x3), (4, .int x4)] [] S := by
  intro k
  induction k with
  | zero =>
    intro x1 x3 x4 S h
    exact absurd (show (none : Option (Int32 × Hp)) = some r from h) (by simp)
  | succ k ih =>
    intro x1 x3 x4 S h H locs ls hR hl
    rw [f_X3_oneMore_53] at h
    refine lv_iload C.1 C.2.1 dX3_oneMore_53 (lv_at hl 3 rfl) ?_
    refine lv_iconst (v := (3 : Int32)) C.1 C.2.1 dX3_oneMore_55 (by decide) ?_
    refine lv_icmp_ge (tgt := 101) C.1 C.2.1 dX3_oneMore_56 (by decide) (fun hc => ?_) (fun hc => ?_)
    · replace h := if_t h hc
      refine lv_aload_n C.1 C.2.1 dX3_oneMore_101 rfl (lv_at hl 0 rfl) ?_
      obtain ⟨p1, e1, hp1, h⟩ := ldP_ok h
      refine hr_getP C cf3 fH_RX3_24 hR aH_20 e1 dX3_oneMore_102 ?_
      refine ho_getR (a' := (p1 + 2)) C cf2 fH_RX3_139 hR hp1 (pH_2_6 hp1.2) dX3_oneMore_105 ?_
      refine lv_iload_n C.1 C.2.1 dX3_oneMore_108 rfl (lv_at hl 1 rfl) ?_
      obtain ⟨p2, e2, hi2, hp2, h⟩ := ldR_ok h
      refine hr_rld C hR (rH_2_2 hp1) hi2 e2 dX3_oneMore_109 ?_
      refine lv_iload_n C.1 C.2.1 dX3_oneMore_110 rfl (lv_at hl 2 rfl) ?_
      refine lv_aload_n C.1 C.2.1 dX3_oneMore_111 rfl (lv_at hl 0 rfl) ?_
      refine ho_getR (a' := 10) C cf3 fH_RX3_20 hR aH_20 rfl dX3_oneMore_112 ?_
      refine ho_getI C cf10 fH_RX3_132 hR aH_10 dX3_oneMore_115 ?_
      obtain ⟨S3, e3, hi3, h⟩ := stI_ok h
      refine hr_ist C hR hp2 hi3 e3 dX3_oneMore_118 (fun H locs hR => ?_)
      refine lv_aload_n C.1 C.2.1 dX3_oneMore_119 rfl (lv_at hl 0 rfl) ?_
      refine ho_getR (a' := 10) C cf3 fH_RX3_20 hR aH_20 rfl dX3_oneMore_120 ?_
      obtain ⟨S4, h4, h⟩ := ob_ok h
      refine hr_Vv (S' := S4) (As := []) (rest := []) C cf10 (c_X10_next l E _ _ h4) yv_X10_next lk_RX3_126 rfl aH_10 rfl rfl hl.1 (Nat.le_of_ble_eq_true rfl) (by decide) (by decide) hR (ho_A hR) dX3_oneMore_123 (fun H locs hR => ?_)
      refine lv_iconst (v := (1 : Int32)) C.1 C.2.1 dX3_oneMore_126 (by decide) ?_
      exact ho_zret C hR (Or.inr rfl) h dX3_oneMore_127
    · replace h := if_f h hc
      refine lv_aload_n C.1 C.2.1 dX3_oneMore_59 rfl (lv_at hl 0 rfl) ?_
      obtain ⟨p5, e5, hp5, h⟩ := ldP_ok h
      refine hr_getP C cf3 fH_RX3_24 hR aH_20 e5 dX3_oneMore_60 ?_
      refine lv_iload C.1 C.2.1 dX3_oneMore_63 (lv_at hl 3 rfl) ?_
      refine lv_aload_n C.1 C.2.1 dX3_oneMore_65 rfl (lv_at hl 0 rfl) ?_
      refine ho_getR (a' := 10) C cf3 fH_RX3_20 hR aH_20 rfl dX3_oneMore_66 ?_
      refine ho_getI C cf10 fH_RX3_132 hR aH_10 dX3_oneMore_69 ?_
      obtain ⟨r6, S6, h6, h⟩ := ob2_ok h
      refine hr_Vi (v := r6) (S' := S6) (As := [.int x4, .int (S.1 10 7)]) (rest := []) C cf2 (c_X2_numberOf l E p5 x4 (S.1 10 7) hp5 _ _ h6) yv_X2_numberOf lk_RX3_135 rfl hp5 rfl rfl hl.1 (Nat.le_of_ble_eq_true rfl) (by decide) (by decide) hR (ho_A hR) dX3_oneMore_72 (fun H locs hR => ?_)
      refine lv_iconst (v := (-1 : Int32)) C.1 C.2.1 dX3_oneMore_75 (by decide) ?_
      refine lv_icmp_eq (tgt := 95) C.1 C.2.1 dX3_oneMore_76 (by decide) (fun hc => ?_) (fun hc => ?_)
      · replace h := if_t h hc
        obtain ⟨v7, e7, h⟩ := le1_ok h
        refine lv_iinc (v := v7) (lv' := [(4, .int v7), (0, .ref (E.2.1 20)), (1, .int x1), (3, .int x3)]) C.1 C.2.1 dX3_oneMore_95 hl (k := 3) rfl (by rw [e7]; rfl) (by decide) rfl (fun ls hl => ?_)
        refine lv_goto (tgt := 53) C.1 C.2.1 dX3_oneMore_98 (by decide) ?_
        exact ih x1 x3 v7 S6 h _ _ _ hR (lv_sub hl [1, 2, 3, 0] rfl)
      · replace h := if_f h hc
        refine lv_aload_n C.1 C.2.1 dX3_oneMore_79 rfl (lv_at hl 0 rfl) ?_
        refine ho_getR (a' := 10) C cf3 fH_RX3_20 hR aH_20 rfl dX3_oneMore_80 ?_
        refine lv_iconst (v := (3 : Int32)) C.1 C.2.1 dX3_oneMore_83 (by decide) ?_
        refine lv_aload_n C.1 C.2.1 dX3_oneMore_84 rfl (lv_at hl 0 rfl) ?_
        refine ho_getR (a' := 10) C cf3 fH_RX3_20 hR aH_20 rfl dX3_oneMore_85 ?_
        refine ho_getI C cf10 fH_RX3_63 hR aH_10 dX3_oneMore_88 ?_
        obtain ⟨r8, S8, h8, h⟩ := ob2_ok h
        refine hr_Vi (v := r8) (S' := S8) (As := [.int (3 : Int32), .int (S6.1 10 5)]) (rest := []) C cf10 (c_X10_wrong l E (3 : Int32) (S6.1 10 5) _ _ h8) yv_X10_wrong lk_RX3_66 rfl aH_10 rfl rfl hl.1 (Nat.le_of_ble_eq_true rfl) (by decide) (by decide) hR (ho_A hR) dX3_oneMore_91 (fun H locs hR => ?_)
        obtain ⟨hz, h⟩ := tr_ok h
        exact ho_zret C hR hz h dX3_oneMore_94
def f_X3_oneMore (x1 : Int32) (x2 : Int32) (S : Hp) : Option (Int32 × Hp) :=
  ldP yH S 20 2 2 (fun p1 => ldI S (p1 + 1) 3 x1 (fun v2 => if v2 < x2 then ob (f_X10_next S) (fun S3 => ob2 (f_X10_nameHere S3) (fun r4 S4 => if r4 = 0 then some ((0 : Int32), S4) else f_X3_oneMore_53 5000 x1 v2 (0 : Int32) S4)) else ob2 (f_X10_wrong (5 : Int32) (S.1 10 5) S) (fun r5 S5 => tr r5 (some (r5, S5)))))
set_option maxHeartbeats 4000000 in
set_option maxRecDepth 100000 in
theorem c_X3_oneMore (l : Launch) (E : Ev) (x1 : Int32) (x2 : Int32) (S : Hp) (r : (Int32 × Hp)) (h : f_X3_oneMore x1 x2 S = some r) : ho_M l yH E yX3_oneMore cX3_oneMore 5 (some .boolean) 2 [.ref (E.2.1 20), .int x1, .int x2] S (some (.int r.1), r.2) := by
  refine ho_in (by decide) (Nat.le_of_ble_eq_true rfl) ?_
  intro p e s m args below meth c C hR ls hl
  have C : ho_I p s m args meth c RX3 cX3_oneMore 5 (some .boolean) := C
  have hl : lv_has ls 5 [(0, .ref (E.2.1 20)), (1, .int x1), (2, .int x2)] := hl
  unfold f_X3_oneMore at h
  refine lv_aload_n C.1 C.2.1 dX3_oneMore_0 rfl (lv_at hl 0 rfl) ?_
  obtain ⟨p1, e1, hp1, h⟩ := ldP_ok h
  refine hr_getP C cf3 fH_RX3_24 hR aH_20 e1 dX3_oneMore_1 ?_
  refine ho_getR (a' := (p1 + 1)) C cf2 fH_RX3_122 hR hp1 (pH_2_5 hp1.2) dX3_oneMore_4 ?_
  refine lv_iload_n C.1 C.2.1 dX3_oneMore_7 rfl (lv_at hl 1 rfl) ?_
  obtain ⟨v2, e2, hi2, h⟩ := ldI_ok h
  refine hr_ild C hR (rH_2_1 hp1) hi2 e2 dX3_oneMore_8 ?_
  refine lv_istore_n (lv' := [(3, .int v2), (0, .ref (E.2.1 20)), (1, .int x1), (2, .int x2)]) C.1 C.2.1 dX3_oneMore_9 rfl hl (by decide) rfl (fun ls hl => ?_)
  refine lv_iload_n C.1 C.2.1 dX3_oneMore_10 rfl (lv_at hl 0 rfl) ?_
  refine lv_iload_n C.1 C.2.1 dX3_oneMore_11 rfl (lv_at hl 3 rfl) ?_
  refine lv_icmp_lt (tgt := 31) C.1 C.2.1 dX3_oneMore_12 (by decide) (fun hc => ?_) (fun hc => ?_)
  · replace h := if_t h hc
    refine lv_aload_n C.1 C.2.1 dX3_oneMore_31 rfl (lv_at hl 1 rfl) ?_
    refine ho_getR (a' := 10) C cf3 fH_RX3_20 hR aH_20 rfl dX3_oneMore_32 ?_
    obtain ⟨S3, h3, h⟩ := ob_ok h
    refine hr_Vv (S' := S3) (As := []) (rest := []) C cf10 (c_X10_next l E _ _ h3) yv_X10_next lk_RX3_126 rfl aH_10 rfl rfl hl.1 (Nat.le_of_ble_eq_true rfl) (by decide) (by decide) hR (ho_A hR) dX3_oneMore_35 (fun H locs hR => ?_)
    refine lv_aload_n C.1 C.2.1 dX3_oneMore_38 rfl (lv_at hl 1 rfl) ?_
    refine ho_getR (a' := 10) C cf3 fH_RX3_20 hR aH_20 rfl dX3_oneMore_39 ?_
    obtain ⟨r4, S4, h4, h⟩ := ob2_ok h
    refine hr_Vi (v := r4) (S' := S4) (As := []) (rest := []) C cf10 (c_X10_nameHere l E _ _ h4) yv_X10_nameHere lk_RX3_129 rfl aH_10 rfl rfl hl.1 (Nat.le_of_ble_eq_true rfl) (by decide) (by decide) hR (ho_A hR) dX3_oneMore_42 (fun H locs hR => ?_)
    refine lv_if_ne (tgt := 50) C.1 C.2.1 dX3_oneMore_45 (by decide) (fun hc => ?_) (fun hc => ?_)
    · replace h := if_f h hc
      refine lv_iconst (v := (0 : Int32)) C.1 C.2.1 dX3_oneMore_50 (by decide) ?_
      refine lv_istore (lv' := [(4, .int (0 : Int32)), (3, .int v2), (0, .ref (E.2.1 20)), (1, .int x1), (2, .int x2)]) C.1 C.2.1 dX3_oneMore_51 hl (by decide) rfl (fun ls hl => ?_)
      exact w_X3_oneMore_53 C 5000 x1 v2 (0 : Int32) S4 h _ _ _ hR (lv_sub hl [2, 3, 1, 0] rfl)
    · replace h := if_t h hc
      refine lv_iconst (v := (0 : Int32)) C.1 C.2.1 dX3_oneMore_48 (by decide) ?_
      exact ho_zret C hR (Or.inl rfl) h dX3_oneMore_49
  · replace h := if_f h hc
    refine lv_aload_n C.1 C.2.1 dX3_oneMore_15 rfl (lv_at hl 1 rfl) ?_
    refine ho_getR (a' := 10) C cf3 fH_RX3_20 hR aH_20 rfl dX3_oneMore_16 ?_
    refine lv_iconst (v := (5 : Int32)) C.1 C.2.1 dX3_oneMore_19 (by decide) ?_
    refine lv_aload_n C.1 C.2.1 dX3_oneMore_20 rfl (lv_at hl 1 rfl) ?_
    refine ho_getR (a' := 10) C cf3 fH_RX3_20 hR aH_20 rfl dX3_oneMore_21 ?_
    refine ho_getI C cf10 fH_RX3_63 hR aH_10 dX3_oneMore_24 ?_
    obtain ⟨r5, S5, h5, h⟩ := ob2_ok h
    refine hr_Vi (v := r5) (S' := S5) (As := [.int (5 : Int32), .int (S.1 10 5)]) (rest := []) C cf10 (c_X10_wrong l E (5 : Int32) (S.1 10 5) _ _ h5) yv_X10_wrong lk_RX3_66 rfl aH_10 rfl rfl hl.1 (Nat.le_of_ble_eq_true rfl) (by decide) (by decide) hR (ho_A hR) dX3_oneMore_27 (fun H locs hR => ?_)
    obtain ⟨hz, h⟩ := tr_ok h
    exact ho_zret C hR hz h dX3_oneMore_30
theorem dX3_newProvince_0 : decode cX3_newProvince 0 = .ok (.aload_n 0, 1) := by decide +kernel
theorem dX3_newProvince_1 : decode cX3_newProvince 1 = .ok (.getfield 24, 3) := by decide +kernel
theorem dX3_newProvince_4 : decode cX3_newProvince 4 = .ok (.getfield 122, 3) := by decide +kernel
theorem dX3_newProvince_7 : decode cX3_newProvince 7 = .ok (.iconst 0, 1) := by decide +kernel
theorem dX3_newProvince_8 : decode cX3_newProvince 8 = .ok (.iaload, 1) := by decide +kernel
theorem dX3_newProvince_9 : decode cX3_newProvince 9 = .ok (.istore_n 1, 1) := by decide +kernel
theorem dX3_newProvince_10 : decode cX3_newProvince 10 = .ok (.aload_n 0, 1) := by decide +kernel
theorem dX3_newProvince_11 : decode cX3_newProvince 11 = .ok (.getfield 20, 3) := by decide +kernel
theorem dX3_newProvince_14 : decode cX3_newProvince 14 = .ok (.iconst 0, 1) := by decide +kernel
theorem dX3_newProvince_15 : decode cX3_newProvince 15 = .ok (.sipush 9999, 3) := by decide +kernel
theorem dX3_newProvince_18 : decode cX3_newProvince 18 = .ok (.invokevirtual 74, 3) := by decide +kernel
theorem dX3_newProvince_21 : decode cX3_newProvince 21 = .ok (.ifCond .ne 5, 3) := by decide +kernel
theorem dX3_newProvince_24 : decode cX3_newProvince 24 = .ok (.iconst 0, 1) := by decide +kernel
theorem dX3_newProvince_25 : decode cX3_newProvince 25 = .ok (.ireturn, 1) := by decide +kernel
theorem dX3_newProvince_26 : decode cX3_newProvince 26 = .ok (.aload_n 0, 1) := by decide +kernel
theorem dX3_newProvince_27 : decode cX3_newProvince 27 = .ok (.getfield 24, 3) := by decide +kernel
theorem dX3_newProvince_30 : decode cX3_newProvince 30 = .ok (.getfield 143, 3) := by decide +kernel
theorem dX3_newProvince_33 : decode cX3_newProvince 33 = .ok (.iload_n 1, 1) := by decide +kernel
theorem dX3_newProvince_34 : decode cX3_newProvince 34 = .ok (.aload_n 0, 1) := by decide +kernel
theorem dX3_newProvince_35 : decode cX3_newProvince 35 = .ok (.getfield 20, 3) := by decide +kernel
theorem dX3_newProvince_38 : decode cX3_newProvince 38 = .ok (.getfield 77, 3) := by decide +kernel
theorem dX3_newProvince_41 : decode cX3_newProvince 41 = .ok (.iastore, 1) := by decide +kernel
theorem dX3_newProvince_42 : decode cX3_newProvince 42 = .ok (.aload_n 0, 1) := by decide +kernel
theorem dX3_newProvince_43 : decode cX3_newProvince 43 = .ok (.getfield 20, 3) := by decide +kernel
theorem dX3_newProvince_46 : decode cX3_newProvince 46 = .ok (.iconst 4, 1) := by decide +kernel
theorem dX3_newProvince_47 : decode cX3_newProvince 47 = .ok (.invokevirtual 70, 3) := by decide +kernel
theorem dX3_newProvince_50 : decode cX3_newProvince 50 = .ok (.ifCond .eq 17, 3) := by decide +kernel
theorem dX3_newProvince_53 : decode cX3_newProvince 53 = .ok (.aload_n 0, 1) := by decide +kernel
theorem dX3_newProvince_54 : decode cX3_newProvince 54 = .ok (.getfield 20, 3) := by decide +kernel
theorem dX3_newProvince_57 : decode cX3_newProvince 57 = .ok (.iconst 0, 1) := by decide +kernel
theorem dX3_newProvince_58 : decode cX3_newProvince 58 = .ok (.sipush 999, 3) := by decide +kernel
theorem dX3_newProvince_61 : decode cX3_newProvince 61 = .ok (.invokevirtual 74, 3) := by decide +kernel
theorem dX3_newProvince_64 : decode cX3_newProvince 64 = .ok (.ifCond .ne 5, 3) := by decide +kernel
theorem dX3_newProvince_67 : decode cX3_newProvince 67 = .ok (.iconst 0, 1) := by decide +kernel
theorem dX3_newProvince_68 : decode cX3_newProvince 68 = .ok (.ireturn, 1) := by decide +kernel
theorem dX3_newProvince_69 : decode cX3_newProvince 69 = .ok (.aload_n 0, 1) := by decide +kernel
theorem dX3_newProvince_70 : decode cX3_newProvince 70 = .ok (.getfield 24, 3) := by decide +kernel
theorem dX3_newProvince_73 : decode cX3_newProvince 73 = .ok (.getfield 146, 3) := by decide +kernel
theorem dX3_newProvince_76 : decode cX3_newProvince 76 = .ok (.iload_n 1, 1) := by decide +kernel
theorem dX3_newProvince_77 : decode cX3_newProvince 77 = .ok (.aload_n 0, 1) := by decide +kernel
theorem dX3_newProvince_78 : decode cX3_newProvince 78 = .ok (.getfield 20, 3) := by decide +kernel
theorem dX3_newProvince_81 : decode cX3_newProvince 81 = .ok (.getfield 77, 3) := by decide +kernel
theorem dX3_newProvince_84 : decode cX3_newProvince 84 = .ok (.iastore, 1) := by decide +kernel
theorem dX3_newProvince_85 : decode cX3_newProvince 85 = .ok (.aload_n 0, 1) := by decide +kernel
theorem dX3_newProvince_86 : decode cX3_newProvince 86 = .ok (.getfield 24, 3) := by decide +kernel
theorem dX3_newProvince_89 : decode cX3_newProvince 89 = .ok (.getfield 122, 3) := by decide +kernel
theorem dX3_newProvince_92 : decode cX3_newProvince 92 = .ok (.iconst 0, 1) := by decide +kernel
theorem dX3_newProvince_93 : decode cX3_newProvince 93 = .ok (.dup2, 1) := by decide +kernel
theorem dX3_newProvince_94 : decode cX3_newProvince 94 = .ok (.iaload, 1) := by decide +kernel
theorem dX3_newProvince_95 : decode cX3_newProvince 95 = .ok (.iconst 1, 1) := by decide +kernel
theorem dX3_newProvince_96 : decode cX3_newProvince 96 = .ok (.iadd, 1) := by decide +kernel
theorem dX3_newProvince_97 : decode cX3_newProvince 97 = .ok (.iastore, 1) := by decide +kernel
theorem dX3_newProvince_98 : decode cX3_newProvince 98 = .ok (.iconst 1, 1) := by decide +kernel
theorem dX3_newProvince_99 : decode cX3_newProvince 99 = .ok (.ireturn, 1) := by decide +kernel
def f_X3_newProvince (S : Hp) : Option (Int32 × Hp) :=
  ldP yH S 20 2 2 (fun p1 => ldI S (p1 + 1) 3 (0 : Int32) (fun v2 => ob2 (f_X10_takeNumber (0 : Int32) (9999 : Int32) S) (fun r3 S3 => if r3 = 0 then some ((0 : Int32), S3) else ldP yH S3 20 2 2 (fun p4 => stI S3 (p4 + 6) 6 v2 (S3.1 10 8) (fun S5 => ob2 (f_X10_takeWord (4 : Int32) S5) (fun r6 S6 => if r6 = 0 then some ((0 : Int32), S6) else ob2 (f_X10_takeNumber (0 : Int32) (999 : Int32) S6) (fun r7 S7 => if r7 = 0 then some ((0 : Int32), S7) else ldP yH S7 20 2 2 (fun p8 => stI S7 (p8 + 7) 6 v2 (S7.1 10 8) (fun S9 => ldP yH S9 20 2 2 (fun p10 => ldI S9 (p10 + 1) 3 (0 : Int32) (fun v11 => stI S9 (p10 + 1) 3 (0 : Int32) (v11 + (1 : Int32)) (fun S12 => some ((1 : Int32), S12)))))))))))))
set_option maxHeartbeats 4000000 in
set_option maxRecDepth 100000 in
theorem c_X3_newProvince (l : Launch) (E : Ev) (S : Hp) (r : (Int32 × Hp)) (h : f_X3_newProvince S = some r) : ho_M l yH E yX3_newProvince cX3_newProvince 2 (some .boolean) 3 [.ref (E.2.1 20)] S (some (.int r.1), r.2) := by
  refine ho_in (by decide) (Nat.le_of_ble_eq_true rfl) ?_
  intro p e s m args below meth c C hR ls hl
  have C : ho_I p s m args meth c RX3 cX3_newProvince 2 (some .boolean) := C
  have hl : lv_has ls 2 [(0, .ref (E.2.1 20))] := hl
  unfold f_X3_newProvince at h
  refine lv_aload_n C.1 C.2.1 dX3_newProvince_0 rfl (lv_at hl 0 rfl) ?_
  obtain ⟨p1, e1, hp1, h⟩ := ldP_ok h
  refine hr_getP C cf3 fH_RX3_24 hR aH_20 e1 dX3_newProvince_1 ?_
  refine ho_getR (a' := (p1 + 1)) C cf2 fH_RX3_122 hR hp1 (pH_2_5 hp1.2) dX3_newProvince_4 ?_
  refine lv_iconst (v := (0 : Int32)) C.1 C.2.1 dX3_newProvince_7 (by decide) ?_
  obtain ⟨v2, e2, hi2, h⟩ := ldI_ok h
  refine hr_ild C hR (rH_2_1 hp1) hi2 e2 dX3_newProvince_8 ?_
  refine lv_istore_n (lv' := [(1, .int v2), (0, .ref (E.2.1 20))]) C.1 C.2.1 dX3_newProvince_9 rfl hl (by decide) rfl (fun ls hl => ?_)
  refine lv_aload_n C.1 C.2.1 dX3_newProvince_10 rfl (lv_at hl 1 rfl) ?_
  refine ho_getR (a' := 10) C cf3 fH_RX3_20 hR aH_20 rfl dX3_newProvince_11 ?_
  refine lv_iconst (v := (0 : Int32)) C.1 C.2.1 dX3_newProvince_14 (by decide) ?_
  refine lv_sipush (v := (9999 : Int32)) C.1 C.2.1 dX3_newProvince_15 (by decide) ?_
  obtain ⟨r3, S3, h3, h⟩ := ob2_ok h
  refine hr_Vi (v := r3) (S' := S3) (As := [.int (0 : Int32), .int (9999 : Int32)]) (rest := []) C cf10 (c_X10_takeNumber l E (0 : Int32) (9999 : Int32) _ _ h3) yv_X10_takeNumber lk_RX3_74 rfl aH_10 rfl rfl hl.1 (Nat.le_of_ble_eq_true rfl) (by decide) (by decide) hR (ho_A hR) dX3_newProvince_18 (fun H locs hR => ?_)
  refine lv_if_ne (tgt := 26) C.1 C.2.1 dX3_newProvince_21 (by decide) (fun hc => ?_) (fun hc => ?_)
  · replace h := if_f h hc
    refine lv_aload_n C.1 C.2.1 dX3_newProvince_26 rfl (lv_at hl 1 rfl) ?_
    obtain ⟨p4, e4, hp4, h⟩ := ldP_ok h
    refine hr_getP C cf3 fH_RX3_24 hR aH_20 e4 dX3_newProvince_27 ?_
    refine ho_getR (a' := (p4 + 6)) C cf2 fH_RX3_143 hR hp4 (pH_2_7 hp4.2) dX3_newProvince_30 ?_
    refine lv_iload_n C.1 C.2.1 dX3_newProvince_33 rfl (lv_at hl 0 rfl) ?_
    refine lv_aload_n C.1 C.2.1 dX3_newProvince_34 rfl (lv_at hl 1 rfl) ?_
    refine ho_getR (a' := 10) C cf3 fH_RX3_20 hR aH_20 rfl dX3_newProvince_35 ?_
    refine ho_getI C cf10 fH_RX3_77 hR aH_10 dX3_newProvince_38 ?_
    obtain ⟨S5, e5, hi5, h⟩ := stI_ok h
    refine hr_ist C hR (rH_2_6 hp4) hi5 e5 dX3_newProvince_41 (fun H locs hR => ?_)
    refine lv_aload_n C.1 C.2.1 dX3_newProvince_42 rfl (lv_at hl 1 rfl) ?_
    refine ho_getR (a' := 10) C cf3 fH_RX3_20 hR aH_20 rfl dX3_newProvince_43 ?_
    refine lv_iconst (v := (4 : Int32)) C.1 C.2.1 dX3_newProvince_46 (by decide) ?_
    obtain ⟨r6, S6, h6, h⟩ := ob2_ok h
    refine hr_Vi (v := r6) (S' := S6) (As := [.int (4 : Int32)]) (rest := []) C cf10 (c_X10_takeWord l E (4 : Int32) _ _ h6) yv_X10_takeWord lk_RX3_70 rfl aH_10 rfl rfl hl.1 (Nat.le_of_ble_eq_true rfl) (by decide) (by decide) hR (ho_A hR) dX3_newProvince_47 (fun H locs hR => ?_)
    refine lv_if_eq (tgt := 67) C.1 C.2.1 dX3_newProvince_50 (by decide) (fun hc => ?_) (fun hc => ?_)
    · replace h := if_t h hc
      refine lv_iconst (v := (0 : Int32)) C.1 C.2.1 dX3_newProvince_67 (by decide) ?_
      exact ho_zret C hR (Or.inl rfl) h dX3_newProvince_68
    · replace h := if_f h hc
      refine lv_aload_n C.1 C.2.1 dX3_newProvince_53 rfl (lv_at hl 1 rfl) ?_
      refine ho_getR (a' := 10) C cf3 fH_RX3_20 hR aH_20 rfl dX3_newProvince_54 ?_
      refine lv_iconst (v := (0 : Int32)) C.1 C.2.1 dX3_newProvince_57 (by decide) ?_
      refine lv_sipush (v := (999 : Int32)) C.1 C.2.1 dX3_newProvince_58 (by decide) ?_
      obtain ⟨r7, S7, h7, h⟩ := ob2_ok h
      refine hr_Vi (v := r7) (S' := S7) (As := [.int (0 : Int32), .int (999 : Int32)]) (rest := []) C cf10 (c_X10_takeNumber l E (0 : Int32) (999 : Int32) _ _ h7) yv_X10_takeNumber lk_RX3_74 rfl aH_10 rfl rfl hl.1 (Nat.le_of_ble_eq_true rfl) (by decide) (by decide) hR (ho_A hR) dX3_newProvince_61 (fun H locs hR => ?_)
      refine lv_if_ne (tgt := 69) C.1 C.2.1 dX3_newProvince_64 (by decide) (fun hc => ?_) (fun hc => ?_)
      · replace h := if_f h hc
        refine lv_aload_n C.1 C.2.1 dX3_newProvince_69 rfl (lv_at hl 1 rfl) ?_
        obtain ⟨p8, e8, hp8, h⟩ := ldP_ok h
        refine hr_getP C cf3 fH_RX3_24 hR aH_20 e8 dX3_newProvince_70 ?_
        refine ho_getR (a' := (p8 + 7)) C cf2 fH_RX3_146 hR hp8 (pH_2_8 hp8.2) dX3_newProvince_73 ?_
        refine lv_iload_n C.1 C.2.1 dX3_newProvince_76 rfl (lv_at hl 0 rfl) ?_
        refine lv_aload_n C.1 C.2.1 dX3_newProvince_77 rfl (lv_at hl 1 rfl) ?_
        refine ho_getR (a' := 10) C cf3 fH_RX3_20 hR aH_20 rfl dX3_newProvince_78 ?_
        refine ho_getI C cf10 fH_RX3_77 hR aH_10 dX3_newProvince_81 ?_
        obtain ⟨S9, e9, hi9, h⟩ := stI_ok h
        refine hr_ist C hR (rH_2_7 hp8) hi9 e9 dX3_newProvince_84 (fun H locs hR => ?_)
        refine lv_aload_n C.1 C.2.1 dX3_newProvince_85 rfl (lv_at hl 1 rfl) ?_
        obtain ⟨p10, e10, hp10, h⟩ := ldP_ok h
        refine hr_getP C cf3 fH_RX3_24 hR aH_20 e10 dX3_newProvince_86 ?_
        refine ho_getR (a' := (p10 + 1)) C cf2 fH_RX3_122 hR hp10 (pH_2_5 hp10.2) dX3_newProvince_89 ?_
        refine lv_iconst (v := (0 : Int32)) C.1 C.2.1 dX3_newProvince_92 (by decide) ?_
        refine lv_dup2_11 C.1 C.2.1 dX3_newProvince_93 rfl rfl ?_
        obtain ⟨v11, e11, hi11, h⟩ := ldI_ok h
        refine hr_ild C hR (rH_2_1 hp10) hi11 e11 dX3_newProvince_94 ?_
        refine lv_iconst (v := (1 : Int32)) C.1 C.2.1 dX3_newProvince_95 (by decide) ?_
        refine lv_iadd C.1 C.2.1 dX3_newProvince_96 ?_
        obtain ⟨S12, e12, hi12, h⟩ := stI_ok h
        refine hr_ist C hR (rH_2_1 hp10) hi12 e12 dX3_newProvince_97 (fun H locs hR => ?_)
        refine lv_iconst (v := (1 : Int32)) C.1 C.2.1 dX3_newProvince_98 (by decide) ?_
        exact ho_zret C hR (Or.inr rfl) h dX3_newProvince_99
      · replace h := if_t h hc
        refine lv_iconst (v := (0 : Int32)) C.1 C.2.1 dX3_newProvince_67 (by decide) ?_
        exact ho_zret C hR (Or.inl rfl) h dX3_newProvince_68
  · replace h := if_t h hc
    refine lv_iconst (v := (0 : Int32)) C.1 C.2.1 dX3_newProvince_24 (by decide) ?_
    exact ho_zret C hR (Or.inl rfl) h dX3_newProvince_25
theorem dX3_newTrick_0 : decode cX3_newTrick 0 = .ok (.aload_n 0, 1) := by decide +kernel
theorem dX3_newTrick_1 : decode cX3_newTrick 1 = .ok (.getfield 24, 3) := by decide +kernel
theorem dX3_newTrick_4 : decode cX3_newTrick 4 = .ok (.getfield 122, 3) := by decide +kernel
theorem dX3_newTrick_7 : decode cX3_newTrick 7 = .ok (.iconst 1, 1) := by decide +kernel
theorem dX3_newTrick_8 : decode cX3_newTrick 8 = .ok (.iaload, 1) := by decide +kernel
theorem dX3_newTrick_9 : decode cX3_newTrick 9 = .ok (.istore_n 1, 1) := by decide +kernel
theorem dX3_newTrick_10 : decode cX3_newTrick 10 = .ok (.aload_n 0, 1) := by decide +kernel
theorem dX3_newTrick_11 : decode cX3_newTrick 11 = .ok (.getfield 20, 3) := by decide +kernel
theorem dX3_newTrick_14 : decode cX3_newTrick 14 = .ok (.bipush 6, 2) := by decide +kernel
theorem dX3_newTrick_16 : decode cX3_newTrick 16 = .ok (.invokevirtual 70, 3) := by decide +kernel
theorem dX3_newTrick_19 : decode cX3_newTrick 19 = .ok (.ifCond .eq 17, 3) := by decide +kernel
theorem dX3_newTrick_22 : decode cX3_newTrick 22 = .ok (.aload_n 0, 1) := by decide +kernel
theorem dX3_newTrick_23 : decode cX3_newTrick 23 = .ok (.getfield 20, 3) := by decide +kernel
theorem dX3_newTrick_26 : decode cX3_newTrick 26 = .ok (.iconst 1, 1) := by decide +kernel
theorem dX3_newTrick_27 : decode cX3_newTrick 27 = .ok (.sipush 999, 3) := by decide +kernel
theorem dX3_newTrick_30 : decode cX3_newTrick 30 = .ok (.invokevirtual 74, 3) := by decide +kernel
theorem dX3_newTrick_33 : decode cX3_newTrick 33 = .ok (.ifCond .ne 5, 3) := by decide +kernel
theorem dX3_newTrick_36 : decode cX3_newTrick 36 = .ok (.iconst 0, 1) := by decide +kernel
theorem dX3_newTrick_37 : decode cX3_newTrick 37 = .ok (.ireturn, 1) := by decide +kernel
theorem dX3_newTrick_38 : decode cX3_newTrick 38 = .ok (.aload_n 0, 1) := by decide +kernel
theorem dX3_newTrick_39 : decode cX3_newTrick 39 = .ok (.getfield 24, 3) := by decide +kernel
theorem dX3_newTrick_42 : decode cX3_newTrick 42 = .ok (.getfield 149, 3) := by decide +kernel
theorem dX3_newTrick_45 : decode cX3_newTrick 45 = .ok (.iload_n 1, 1) := by decide +kernel
theorem dX3_newTrick_46 : decode cX3_newTrick 46 = .ok (.aload_n 0, 1) := by decide +kernel
theorem dX3_newTrick_47 : decode cX3_newTrick 47 = .ok (.getfield 20, 3) := by decide +kernel
theorem dX3_newTrick_50 : decode cX3_newTrick 50 = .ok (.getfield 77, 3) := by decide +kernel
theorem dX3_newTrick_53 : decode cX3_newTrick 53 = .ok (.iastore, 1) := by decide +kernel
theorem dX3_newTrick_54 : decode cX3_newTrick 54 = .ok (.aload_n 0, 1) := by decide +kernel
theorem dX3_newTrick_55 : decode cX3_newTrick 55 = .ok (.getfield 20, 3) := by decide +kernel
theorem dX3_newTrick_58 : decode cX3_newTrick 58 = .ok (.bipush 7, 2) := by decide +kernel
theorem dX3_newTrick_60 : decode cX3_newTrick 60 = .ok (.invokevirtual 70, 3) := by decide +kernel
theorem dX3_newTrick_63 : decode cX3_newTrick 63 = .ok (.ifCond .eq 13, 3) := by decide +kernel
theorem dX3_newTrick_66 : decode cX3_newTrick 66 = .ok (.aload_n 0, 1) := by decide +kernel
theorem dX3_newTrick_67 : decode cX3_newTrick 67 = .ok (.getfield 20, 3) := by decide +kernel
theorem dX3_newTrick_70 : decode cX3_newTrick 70 = .ok (.invokevirtual 129, 3) := by decide +kernel
theorem dX3_newTrick_73 : decode cX3_newTrick 73 = .ok (.ifCond .ne 5, 3) := by decide +kernel
theorem dX3_newTrick_76 : decode cX3_newTrick 76 = .ok (.iconst 0, 1) := by decide +kernel
theorem dX3_newTrick_77 : decode cX3_newTrick 77 = .ok (.ireturn, 1) := by decide +kernel
theorem dX3_newTrick_78 : decode cX3_newTrick 78 = .ok (.aload_n 0, 1) := by decide +kernel
theorem dX3_newTrick_79 : decode cX3_newTrick 79 = .ok (.getfield 24, 3) := by decide +kernel
theorem dX3_newTrick_82 : decode cX3_newTrick 82 = .ok (.iconst 0, 1) := by decide +kernel
theorem dX3_newTrick_83 : decode cX3_newTrick 83 = .ok (.aload_n 0, 1) := by decide +kernel
theorem dX3_newTrick_84 : decode cX3_newTrick 84 = .ok (.getfield 20, 3) := by decide +kernel
theorem dX3_newTrick_87 : decode cX3_newTrick 87 = .ok (.getfield 132, 3) := by decide +kernel
theorem dX3_newTrick_90 : decode cX3_newTrick 90 = .ok (.invokevirtual 135, 3) := by decide +kernel
theorem dX3_newTrick_93 : decode cX3_newTrick 93 = .ok (.istore_n 2, 1) := by decide +kernel
theorem dX3_newTrick_94 : decode cX3_newTrick 94 = .ok (.iload_n 2, 1) := by decide +kernel
theorem dX3_newTrick_95 : decode cX3_newTrick 95 = .ok (.iconst (-1), 1) := by decide +kernel
theorem dX3_newTrick_96 : decode cX3_newTrick 96 = .ok (.if_icmp .ne 19, 3) := by decide +kernel
theorem dX3_newTrick_99 : decode cX3_newTrick 99 = .ok (.aload_n 0, 1) := by decide +kernel
theorem dX3_newTrick_100 : decode cX3_newTrick 100 = .ok (.getfield 20, 3) := by decide +kernel
theorem dX3_newTrick_103 : decode cX3_newTrick 103 = .ok (.iconst 3, 1) := by decide +kernel
theorem dX3_newTrick_104 : decode cX3_newTrick 104 = .ok (.aload_n 0, 1) := by decide +kernel
theorem dX3_newTrick_105 : decode cX3_newTrick 105 = .ok (.getfield 20, 3) := by decide +kernel
theorem dX3_newTrick_108 : decode cX3_newTrick 108 = .ok (.getfield 63, 3) := by decide +kernel
theorem dX3_newTrick_111 : decode cX3_newTrick 111 = .ok (.invokevirtual 66, 3) := by decide +kernel
theorem dX3_newTrick_114 : decode cX3_newTrick 114 = .ok (.ireturn, 1) := by decide +kernel
theorem dX3_newTrick_115 : decode cX3_newTrick 115 = .ok (.aload_n 0, 1) := by decide +kernel
theorem dX3_newTrick_116 : decode cX3_newTrick 116 = .ok (.getfield 24, 3) := by decide +kernel
theorem dX3_newTrick_119 : decode cX3_newTrick 119 = .ok (.getfield 152, 3) := by decide +kernel
theorem dX3_newTrick_122 : decode cX3_newTrick 122 = .ok (.iload_n 1, 1) := by decide +kernel
theorem dX3_newTrick_123 : decode cX3_newTrick 123 = .ok (.iload_n 2, 1) := by decide +kernel
theorem dX3_newTrick_124 : decode cX3_newTrick 124 = .ok (.iastore, 1) := by decide +kernel
theorem dX3_newTrick_125 : decode cX3_newTrick 125 = .ok (.aload_n 0, 1) := by decide +kernel
theorem dX3_newTrick_126 : decode cX3_newTrick 126 = .ok (.getfield 20, 3) := by decide +kernel
theorem dX3_newTrick_129 : decode cX3_newTrick 129 = .ok (.invokevirtual 126, 3) := by decide +kernel
theorem dX3_newTrick_132 : decode cX3_newTrick 132 = .ok (.aload_n 0, 1) := by decide +kernel
theorem dX3_newTrick_133 : decode cX3_newTrick 133 = .ok (.getfield 20, 3) := by decide +kernel
theorem dX3_newTrick_136 : decode cX3_newTrick 136 = .ok (.bipush 8, 2) := by decide +kernel
theorem dX3_newTrick_138 : decode cX3_newTrick 138 = .ok (.invokevirtual 70, 3) := by decide +kernel
theorem dX3_newTrick_141 : decode cX3_newTrick 141 = .ok (.ifCond .eq 16, 3) := by decide +kernel
theorem dX3_newTrick_144 : decode cX3_newTrick 144 = .ok (.aload_n 0, 1) := by decide +kernel
theorem dX3_newTrick_145 : decode cX3_newTrick 145 = .ok (.getfield 20, 3) := by decide +kernel
theorem dX3_newTrick_148 : decode cX3_newTrick 148 = .ok (.iconst 0, 1) := by decide +kernel
theorem dX3_newTrick_149 : decode cX3_newTrick 149 = .ok (.bipush 9, 2) := by decide +kernel
theorem dX3_newTrick_151 : decode cX3_newTrick 151 = .ok (.invokevirtual 74, 3) := by decide +kernel
theorem dX3_newTrick_154 : decode cX3_newTrick 154 = .ok (.ifCond .ne 5, 3) := by decide +kernel
theorem dX3_newTrick_157 : decode cX3_newTrick 157 = .ok (.iconst 0, 1) := by decide +kernel
theorem dX3_newTrick_158 : decode cX3_newTrick 158 = .ok (.ireturn, 1) := by decide +kernel
theorem dX3_newTrick_159 : decode cX3_newTrick 159 = .ok (.aload_n 0, 1) := by decide +kernel
theorem dX3_newTrick_160 : decode cX3_newTrick 160 = .ok (.getfield 24, 3) := by decide +kernel
theorem dX3_newTrick_163 : decode cX3_newTrick 163 = .ok (.getfield 155, 3) := by decide +kernel
theorem dX3_newTrick_166 : decode cX3_newTrick 166 = .ok (.iload_n 1, 1) := by decide +kernel
theorem dX3_newTrick_167 : decode cX3_newTrick 167 = .ok (.aload_n 0, 1) := by decide +kernel
theorem dX3_newTrick_168 : decode cX3_newTrick 168 = .ok (.getfield 20, 3) := by decide +kernel
theorem dX3_newTrick_171 : decode cX3_newTrick 171 = .ok (.getfield 77, 3) := by decide +kernel
theorem dX3_newTrick_174 : decode cX3_newTrick 174 = .ok (.iastore, 1) := by decide +kernel
theorem dX3_newTrick_175 : decode cX3_newTrick 175 = .ok (.aload_n 0, 1) := by decide +kernel
theorem dX3_newTrick_176 : decode cX3_newTrick 176 = .ok (.getfield 24, 3) := by decide +kernel
theorem dX3_newTrick_179 : decode cX3_newTrick 179 = .ok (.getfield 122, 3) := by decide +kernel
theorem dX3_newTrick_182 : decode cX3_newTrick 182 = .ok (.iconst 1, 1) := by decide +kernel
theorem dX3_newTrick_183 : decode cX3_newTrick 183 = .ok (.dup2, 1) := by decide +kernel
theorem dX3_newTrick_184 : decode cX3_newTrick 184 = .ok (.iaload, 1) := by decide +kernel
theorem dX3_newTrick_185 : decode cX3_newTrick 185 = .ok (.iconst 1, 1) := by decide +kernel
theorem dX3_newTrick_186 : decode cX3_newTrick 186 = .ok (.iadd, 1) := by decide +kernel
theorem dX3_newTrick_187 : decode cX3_newTrick 187 = .ok (.iastore, 1) := by decide +kernel
theorem dX3_newTrick_188 : decode cX3_newTrick 188 = .ok (.iconst 1, 1) := by decide +kernel
theorem dX3_newTrick_189 : decode cX3_newTrick 189 = .ok (.ireturn, 1) := by decide +kernel
def f_X3_newTrick (S : Hp) : Option (Int32 × Hp) :=
  ldP yH S 20 2 2 (fun p1 => ldI S (p1 + 1) 3 (1 : Int32) (fun v2 => ob2 (f_X10_takeWord (6 : Int32) S) (fun r3 S3 => if r3 = 0 then some ((0 : Int32), S3) else ob2 (f_X10_takeNumber (1 : Int32) (999 : Int32) S3) (fun r4 S4 => if r4 = 0 then some ((0 : Int32), S4) else ldP yH S4 20 2 2 (fun p5 => stI S4 (p5 + 8) 6 v2 (S4.1 10 8) (fun S6 => ob2 (f_X10_takeWord (7 : Int32) S6) (fun r7 S7 => if r7 = 0 then some ((0 : Int32), S7) else ob2 (f_X10_nameHere S7) (fun r8 S8 => if r8 = 0 then some ((0 : Int32), S8) else ldP yH S8 20 2 2 (fun p9 => ob2 (f_X2_numberOf p9 (0 : Int32) (S8.1 10 7) S8) (fun r10 S10 => if r10 = (-1 : Int32) then ob2 (f_X10_wrong (3 : Int32) (S10.1 10 5) S10) (fun r21 S21 => tr r21 (some (r21, S21))) else ldP yH S10 20 2 2 (fun p11 => stI S10 (p11 + 9) 6 v2 r10 (fun S12 => ob (f_X10_next S12) (fun S13 => ob2 (f_X10_takeWord (8 : Int32) S13) (fun r14 S14 => if r14 = 0 then some ((0 : Int32), S14) else ob2 (f_X10_takeNumber (0 : Int32) (9 : Int32) S14) (fun r15 S15 => if r15 = 0 then some ((0 : Int32), S15) else ldP yH S15 20 2 2 (fun p16 => stI S15 (p16 + 10) 6 v2 (S15.1 10 8) (fun S17 => ldP yH S17 20 2 2 (fun p18 => ldI S17 (p18 + 1) 3 (1 : Int32) (fun v19 => stI S17 (p18 + 1) 3 (1 : Int32) (v19 + (1 : Int32)) (fun S20 => some ((1 : Int32), S20)))))))))))))))))))))
set_option maxHeartbeats 4000000 in
set_option maxRecDepth 100000 in
theorem c_X3_newTrick (l : Launch) (E : Ev) (S : Hp) (r : (Int32 × Hp)) (h : f_X3_newTrick S = some r) : ho_M l yH E yX3_newTrick cX3_newTrick 3 (some .boolean) 3 [.ref (E.2.1 20)] S (some (.int r.1), r.2) := by
  refine ho_in (by decide) (Nat.le_of_ble_eq_true rfl) ?_
  intro p e s m args below meth c C hR ls hl
  have C : ho_I p s m args meth c RX3 cX3_newTrick 3 (some .boolean) := C
  have hl : lv_has ls 3 [(0, .ref (E.2.1 20))] := hl
  unfold f_X3_newTrick at h
  refine lv_aload_n C.1 C.2.1 dX3_newTrick_0 rfl (lv_at hl 0 rfl) ?_
  obtain ⟨p1, e1, hp1, h⟩ := ldP_ok h
  refine hr_getP C cf3 fH_RX3_24 hR aH_20 e1 dX3_newTrick_1 ?_
  refine ho_getR (a' := (p1 + 1)) C cf2 fH_RX3_122 hR hp1 (pH_2_5 hp1.2) dX3_newTrick_4 ?_
  refine lv_iconst (v := (1 : Int32)) C.1 C.2.1 dX3_newTrick_7 (by decide) ?_
  obtain ⟨v2, e2, hi2, h⟩ := ldI_ok h
  refine hr_ild C hR (rH_2_1 hp1) hi2 e2 dX3_newTrick_8 ?_
  refine lv_istore_n (lv' := [(1, .int v2), (0, .ref (E.2.1 20))]) C.1 C.2.1 dX3_newTrick_9 rfl hl (by decide) rfl (fun ls hl => ?_)
  refine lv_aload_n C.1 C.2.1 dX3_newTrick_10 rfl (lv_at hl 1 rfl) ?_
  refine ho_getR (a' := 10) C cf3 fH_RX3_20 hR aH_20 rfl dX3_newTrick_11 ?_
  refine lv_bipush (v := (6 : Int32)) C.1 C.2.1 dX3_newTrick_14 (by decide) ?_
  obtain ⟨r3, S3, h3, h⟩ := ob2_ok h
  refine hr_Vi (v := r3) (S' := S3) (As := [.int (6 : Int32)]) (rest := []) C cf10 (c_X10_takeWord l E (6 : Int32) _ _ h3) yv_X10_takeWord lk_RX3_70 rfl aH_10 rfl rfl hl.1 (Nat.le_of_ble_eq_true rfl) (by decide) (by decide) hR (ho_A hR) dX3_newTrick_16 (fun H locs hR => ?_)
  refine lv_if_eq (tgt := 36) C.1 C.2.1 dX3_newTrick_19 (by decide) (fun hc => ?_) (fun hc => ?_)
  · replace h := if_t h hc
    refine lv_iconst (v := (0 : Int32)) C.1 C.2.1 dX3_newTrick_36 (by decide) ?_
    exact ho_zret C hR (Or.inl rfl) h dX3_newTrick_37
  · replace h := if_f h hc
    refine lv_aload_n C.1 C.2.1 dX3_newTrick_22 rfl (lv_at hl 1 rfl) ?_
    refine ho_getR (a' := 10) C cf3 fH_RX3_20 hR aH_20 rfl dX3_newTrick_23 ?_
    refine lv_iconst (v := (1 : Int32)) C.1 C.2.1 dX3_newTrick_26 (by decide) ?_
    refine lv_sipush (v := (999 : Int32)) C.1 C.2.1 dX3_newTrick_27 (by decide) ?_
    obtain ⟨r4, S4, h4, h⟩ := ob2_ok h
    refine hr_Vi (v := r4) (S' := S4) (As := [.int (1 : Int32), .int (999 : Int32)]) (rest := []) C cf10 (c_X10_takeNumber l E (1 : Int32) (999 : Int32) _ _ h4) yv_X10_takeNumber lk_RX3_74 rfl aH_10 rfl rfl hl.1 (Nat.le_of_ble_eq_true rfl) (by decide) (by decide) hR (ho_A hR) dX3_newTrick_30 (fun H locs hR => ?_)
    refine lv_if_ne (tgt := 38) C.1 C.2.1 dX3_newTrick_33 (by decide) (fun hc => ?_) (fun hc => ?_)
    · replace h := if_f h hc
      refine lv_aload_n C.1 C.2.1 dX3_newTrick_38 rfl (lv_at hl 1 rfl) ?_
      obtain ⟨p5, e5, hp5, h⟩ := ldP_ok h
      refine hr_getP C cf3 fH_RX3_24 hR aH_20 e5 dX3_newTrick_39 ?_
      refine ho_getR (a' := (p5 + 8)) C cf2 fH_RX3_149 hR hp5 (pH_2_9 hp5.2) dX3_newTrick_42 ?_
      refine lv_iload_n C.1 C.2.1 dX3_newTrick_45 rfl (lv_at hl 0 rfl) ?_
      refine lv_aload_n C.1 C.2.1 dX3_newTrick_46 rfl (lv_at hl 1 rfl) ?_
      refine ho_getR (a' := 10) C cf3 fH_RX3_20 hR aH_20 rfl dX3_newTrick_47 ?_
      refine ho_getI C cf10 fH_RX3_77 hR aH_10 dX3_newTrick_50 ?_
      obtain ⟨S6, e6, hi6, h⟩ := stI_ok h
      refine hr_ist C hR (rH_2_8 hp5) hi6 e6 dX3_newTrick_53 (fun H locs hR => ?_)
      refine lv_aload_n C.1 C.2.1 dX3_newTrick_54 rfl (lv_at hl 1 rfl) ?_
      refine ho_getR (a' := 10) C cf3 fH_RX3_20 hR aH_20 rfl dX3_newTrick_55 ?_
      refine lv_bipush (v := (7 : Int32)) C.1 C.2.1 dX3_newTrick_58 (by decide) ?_
      obtain ⟨r7, S7, h7, h⟩ := ob2_ok h
      refine hr_Vi (v := r7) (S' := S7) (As := [.int (7 : Int32)]) (rest := []) C cf10 (c_X10_takeWord l E (7 : Int32) _ _ h7) yv_X10_takeWord lk_RX3_70 rfl aH_10 rfl rfl hl.1 (Nat.le_of_ble_eq_true rfl) (by decide) (by decide) hR (ho_A hR) dX3_newTrick_60 (fun H locs hR => ?_)
      refine lv_if_eq (tgt := 76) C.1 C.2.1 dX3_newTrick_63 (by decide) (fun hc => ?_) (fun hc => ?_)
      · replace h := if_t h hc
        refine lv_iconst (v := (0 : Int32)) C.1 C.2.1 dX3_newTrick_76 (by decide) ?_
        exact ho_zret C hR (Or.inl rfl) h dX3_newTrick_77
      · replace h := if_f h hc
        refine lv_aload_n C.1 C.2.1 dX3_newTrick_66 rfl (lv_at hl 1 rfl) ?_
        refine ho_getR (a' := 10) C cf3 fH_RX3_20 hR aH_20 rfl dX3_newTrick_67 ?_
        obtain ⟨r8, S8, h8, h⟩ := ob2_ok h
        refine hr_Vi (v := r8) (S' := S8) (As := []) (rest := []) C cf10 (c_X10_nameHere l E _ _ h8) yv_X10_nameHere lk_RX3_129 rfl aH_10 rfl rfl hl.1 (Nat.le_of_ble_eq_true rfl) (by decide) (by decide) hR (ho_A hR) dX3_newTrick_70 (fun H locs hR => ?_)
        refine lv_if_ne (tgt := 78) C.1 C.2.1 dX3_newTrick_73 (by decide) (fun hc => ?_) (fun hc => ?_)
        · replace h := if_f h hc
          refine lv_aload_n C.1 C.2.1 dX3_newTrick_78 rfl (lv_at hl 1 rfl) ?_
          obtain ⟨p9, e9, hp9, h⟩ := ldP_ok h
          refine hr_getP C cf3 fH_RX3_24 hR aH_20 e9 dX3_newTrick_79 ?_
          refine lv_iconst (v := (0 : Int32)) C.1 C.2.1 dX3_newTrick_82 (by decide) ?_
          refine lv_aload_n C.1 C.2.1 dX3_newTrick_83 rfl (lv_at hl 1 rfl) ?_
          refine ho_getR (a' := 10) C cf3 fH_RX3_20 hR aH_20 rfl dX3_newTrick_84 ?_
          refine ho_getI C cf10 fH_RX3_132 hR aH_10 dX3_newTrick_87 ?_
          obtain ⟨r10, S10, h10, h⟩ := ob2_ok h
          refine hr_Vi (v := r10) (S' := S10) (As := [.int (0 : Int32), .int (S8.1 10 7)]) (rest := []) C cf2 (c_X2_numberOf l E p9 (0 : Int32) (S8.1 10 7) hp9 _ _ h10) yv_X2_numberOf lk_RX3_135 rfl hp9 rfl rfl hl.1 (Nat.le_of_ble_eq_true rfl) (by decide) (by decide) hR (ho_A hR) dX3_newTrick_90 (fun H locs hR => ?_)
          refine lv_istore_n (lv' := [(2, .int r10), (1, .int v2), (0, .ref (E.2.1 20))]) C.1 C.2.1 dX3_newTrick_93 rfl hl (by decide) rfl (fun ls hl => ?_)
          refine lv_iload_n C.1 C.2.1 dX3_newTrick_94 rfl (lv_at hl 0 rfl) ?_
          refine lv_iconst (v := (-1 : Int32)) C.1 C.2.1 dX3_newTrick_95 (by decide) ?_
          refine lv_icmp_ne (tgt := 115) C.1 C.2.1 dX3_newTrick_96 (by decide) (fun hc => ?_) (fun hc => ?_)
          · replace h := if_f h hc
            refine lv_aload_n C.1 C.2.1 dX3_newTrick_115 rfl (lv_at hl 2 rfl) ?_
            obtain ⟨p11, e11, hp11, h⟩ := ldP_ok h
            refine hr_getP C cf3 fH_RX3_24 hR aH_20 e11 dX3_newTrick_116 ?_
            refine ho_getR (a' := (p11 + 9)) C cf2 fH_RX3_152 hR hp11 (pH_2_10 hp11.2) dX3_newTrick_119 ?_
            refine lv_iload_n C.1 C.2.1 dX3_newTrick_122 rfl (lv_at hl 1 rfl) ?_
            refine lv_iload_n C.1 C.2.1 dX3_newTrick_123 rfl (lv_at hl 0 rfl) ?_
            obtain ⟨S12, e12, hi12, h⟩ := stI_ok h
            refine hr_ist C hR (rH_2_9 hp11) hi12 e12 dX3_newTrick_124 (fun H locs hR => ?_)
            refine lv_aload_n C.1 C.2.1 dX3_newTrick_125 rfl (lv_at hl 2 rfl) ?_
            refine ho_getR (a' := 10) C cf3 fH_RX3_20 hR aH_20 rfl dX3_newTrick_126 ?_
            obtain ⟨S13, h13, h⟩ := ob_ok h
            refine hr_Vv (S' := S13) (As := []) (rest := []) C cf10 (c_X10_next l E _ _ h13) yv_X10_next lk_RX3_126 rfl aH_10 rfl rfl hl.1 (Nat.le_of_ble_eq_true rfl) (by decide) (by decide) hR (ho_A hR) dX3_newTrick_129 (fun H locs hR => ?_)
            refine lv_aload_n C.1 C.2.1 dX3_newTrick_132 rfl (lv_at hl 2 rfl) ?_
            refine ho_getR (a' := 10) C cf3 fH_RX3_20 hR aH_20 rfl dX3_newTrick_133 ?_
            refine lv_bipush (v := (8 : Int32)) C.1 C.2.1 dX3_newTrick_136 (by decide) ?_
            obtain ⟨r14, S14, h14, h⟩ := ob2_ok h
            refine hr_Vi (v := r14) (S' := S14) (As := [.int (8 : Int32)]) (rest := []) C cf10 (c_X10_takeWord l E (8 : Int32) _ _ h14) yv_X10_takeWord lk_RX3_70 rfl aH_10 rfl rfl hl.1 (Nat.le_of_ble_eq_true rfl) (by decide) (by decide) hR (ho_A hR) dX3_newTrick_138 (fun H locs hR => ?_)
            refine lv_if_eq (tgt := 157) C.1 C.2.1 dX3_newTrick_141 (by decide) (fun hc => ?_) (fun hc => ?_)
            · replace h := if_t h hc
              refine lv_iconst (v := (0 : Int32)) C.1 C.2.1 dX3_newTrick_157 (by decide) ?_
              exact ho_zret C hR (Or.inl rfl) h dX3_newTrick_158
            · replace h := if_f h hc
              refine lv_aload_n C.1 C.2.1 dX3_newTrick_144 rfl (lv_at hl 2 rfl) ?_
              refine ho_getR (a' := 10) C cf3 fH_RX3_20 hR aH_20 rfl dX3_newTrick_145 ?_
              refine lv_iconst (v := (0 : Int32)) C.1 C.2.1 dX3_newTrick_148 (by decide) ?_
              refine lv_bipush (v := (9 : Int32)) C.1 C.2.1 dX3_newTrick_149 (by decide) ?_
              obtain ⟨r15, S15, h15, h⟩ := ob2_ok h
              refine hr_Vi (v := r15) (S' := S15) (As := [.int (0 : Int32), .int (9 : Int32)]) (rest := []) C cf10 (c_X10_takeNumber l E (0 : Int32) (9 : Int32) _ _ h15) yv_X10_takeNumber lk_RX3_74 rfl aH_10 rfl rfl hl.1 (Nat.le_of_ble_eq_true rfl) (by decide) (by decide) hR (ho_A hR) dX3_newTrick_151 (fun H locs hR => ?_)
              refine lv_if_ne (tgt := 159) C.1 C.2.1 dX3_newTrick_154 (by decide) (fun hc => ?_) (fun hc => ?_)
              · replace h := if_f h hc
                refine lv_aload_n C.1 C.2.1 dX3_newTrick_159 rfl (lv_at hl 2 rfl) ?_
                obtain ⟨p16, e16, hp16, h⟩ := ldP_ok h
                refine hr_getP C cf3 fH_RX3_24 hR aH_20 e16 dX3_newTrick_160 ?_
                refine ho_getR (a' := (p16 + 10)) C cf2 fH_RX3_155 hR hp16 (pH_2_11 hp16.2) dX3_newTrick_163 ?_
                refine lv_iload_n C.1 C.2.1 dX3_newTrick_166 rfl (lv_at hl 1 rfl) ?_
                refine lv_aload_n C.1 C.2.1 dX3_newTrick_167 rfl (lv_at hl 2 rfl) ?_
                refine ho_getR (a' := 10) C cf3 fH_RX3_20 hR aH_20 rfl dX3_newTrick_168 ?_
                refine ho_getI C cf10 fH_RX3_77 hR aH_10 dX3_newTrick_171 ?_
                obtain ⟨S17, e17, hi17, h⟩ := stI_ok h
                refine hr_ist C hR (rH_2_10 hp16) hi17 e17 dX3_newTrick_174 (fun H locs hR => ?_)
                refine lv_aload_n C.1 C.2.1 dX3_newTrick_175 rfl (lv_at hl 2 rfl) ?_
                obtain ⟨p18, e18, hp18, h⟩ := ldP_ok h
                refine hr_getP C cf3 fH_RX3_24 hR aH_20 e18 dX3_newTrick_176 ?_
                refine ho_getR (a' := (p18 + 1)) C cf2 fH_RX3_122 hR hp18 (pH_2_5 hp18.2) dX3_newTrick_179 ?_
                refine lv_iconst (v := (1 : Int32)) C.1 C.2.1 dX3_newTrick_182 (by decide) ?_
                refine lv_dup2_11 C.1 C.2.1 dX3_newTrick_183 rfl rfl ?_
                obtain ⟨v19, e19, hi19, h⟩ := ldI_ok h
                refine hr_ild C hR (rH_2_1 hp18) hi19 e19 dX3_newTrick_184 ?_
                refine lv_iconst (v := (1 : Int32)) C.1 C.2.1 dX3_newTrick_185 (by decide) ?_
                refine lv_iadd C.1 C.2.1 dX3_newTrick_186 ?_
                obtain ⟨S20, e20, hi20, h⟩ := stI_ok h
                refine hr_ist C hR (rH_2_1 hp18) hi20 e20 dX3_newTrick_187 (fun H locs hR => ?_)
                refine lv_iconst (v := (1 : Int32)) C.1 C.2.1 dX3_newTrick_188 (by decide) ?_
                exact ho_zret C hR (Or.inr rfl) h dX3_newTrick_189
              · replace h := if_t h hc
                refine lv_iconst (v := (0 : Int32)) C.1 C.2.1 dX3_newTrick_157 (by decide) ?_
                exact ho_zret C hR (Or.inl rfl) h dX3_newTrick_158
          · replace h := if_t h hc
            refine lv_aload_n C.1 C.2.1 dX3_newTrick_99 rfl (lv_at hl 2 rfl) ?_
            refine ho_getR (a' := 10) C cf3 fH_RX3_20 hR aH_20 rfl dX3_newTrick_100 ?_
            refine lv_iconst (v := (3 : Int32)) C.1 C.2.1 dX3_newTrick_103 (by decide) ?_
            refine lv_aload_n C.1 C.2.1 dX3_newTrick_104 rfl (lv_at hl 2 rfl) ?_
            refine ho_getR (a' := 10) C cf3 fH_RX3_20 hR aH_20 rfl dX3_newTrick_105 ?_
            refine ho_getI C cf10 fH_RX3_63 hR aH_10 dX3_newTrick_108 ?_
            obtain ⟨r21, S21, h21, h⟩ := ob2_ok h
            refine hr_Vi (v := r21) (S' := S21) (As := [.int (3 : Int32), .int (S10.1 10 5)]) (rest := []) C cf10 (c_X10_wrong l E (3 : Int32) (S10.1 10 5) _ _ h21) yv_X10_wrong lk_RX3_66 rfl aH_10 rfl rfl hl.1 (Nat.le_of_ble_eq_true rfl) (by decide) (by decide) hR (ho_A hR) dX3_newTrick_111 (fun H locs hR => ?_)
            obtain ⟨hz, h⟩ := tr_ok h
            exact ho_zret C hR hz h dX3_newTrick_114
        · replace h := if_t h hc
          refine lv_iconst (v := (0 : Int32)) C.1 C.2.1 dX3_newTrick_76 (by decide) ?_
          exact ho_zret C hR (Or.inl rfl) h dX3_newTrick_77
    · replace h := if_t h hc
      refine lv_iconst (v := (0 : Int32)) C.1 C.2.1 dX3_newTrick_36 (by decide) ?_
      exact ho_zret C hR (Or.inl rfl) h dX3_newTrick_37
theorem dX3_newWatcher_0 : decode cX3_newWatcher 0 = .ok (.aload_n 0, 1) := by decide +kernel
theorem dX3_newWatcher_1 : decode cX3_newWatcher 1 = .ok (.getfield 24, 3) := by decide +kernel
theorem dX3_newWatcher_4 : decode cX3_newWatcher 4 = .ok (.getfield 122, 3) := by decide +kernel
theorem dX3_newWatcher_7 : decode cX3_newWatcher 7 = .ok (.iconst 2, 1) := by decide +kernel
theorem dX3_newWatcher_8 : decode cX3_newWatcher 8 = .ok (.iaload, 1) := by decide +kernel
theorem dX3_newWatcher_9 : decode cX3_newWatcher 9 = .ok (.istore_n 1, 1) := by decide +kernel
theorem dX3_newWatcher_10 : decode cX3_newWatcher 10 = .ok (.aload_n 0, 1) := by decide +kernel
theorem dX3_newWatcher_11 : decode cX3_newWatcher 11 = .ok (.getfield 20, 3) := by decide +kernel
theorem dX3_newWatcher_14 : decode cX3_newWatcher 14 = .ok (.bipush 10, 2) := by decide +kernel
theorem dX3_newWatcher_16 : decode cX3_newWatcher 16 = .ok (.invokevirtual 70, 3) := by decide +kernel
theorem dX3_newWatcher_19 : decode cX3_newWatcher 19 = .ok (.ifCond .eq 16, 3) := by decide +kernel
theorem dX3_newWatcher_22 : decode cX3_newWatcher 22 = .ok (.aload_n 0, 1) := by decide +kernel
theorem dX3_newWatcher_23 : decode cX3_newWatcher 23 = .ok (.getfield 20, 3) := by decide +kernel
theorem dX3_newWatcher_26 : decode cX3_newWatcher 26 = .ok (.iconst 0, 1) := by decide +kernel
theorem dX3_newWatcher_27 : decode cX3_newWatcher 27 = .ok (.bipush 9, 2) := by decide +kernel
theorem dX3_newWatcher_29 : decode cX3_newWatcher 29 = .ok (.invokevirtual 74, 3) := by decide +kernel
theorem dX3_newWatcher_32 : decode cX3_newWatcher 32 = .ok (.ifCond .ne 5, 3) := by decide +kernel
theorem dX3_newWatcher_35 : decode cX3_newWatcher 35 = .ok (.iconst 0, 1) := by decide +kernel
theorem dX3_newWatcher_36 : decode cX3_newWatcher 36 = .ok (.ireturn, 1) := by decide +kernel
theorem dX3_newWatcher_37 : decode cX3_newWatcher 37 = .ok (.aload_n 0, 1) := by decide +kernel
theorem dX3_newWatcher_38 : decode cX3_newWatcher 38 = .ok (.getfield 24, 3) := by decide +kernel
theorem dX3_newWatcher_41 : decode cX3_newWatcher 41 = .ok (.getfield 158, 3) := by decide +kernel
theorem dX3_newWatcher_44 : decode cX3_newWatcher 44 = .ok (.iload_n 1, 1) := by decide +kernel
theorem dX3_newWatcher_45 : decode cX3_newWatcher 45 = .ok (.aload_n 0, 1) := by decide +kernel
theorem dX3_newWatcher_46 : decode cX3_newWatcher 46 = .ok (.getfield 20, 3) := by decide +kernel
theorem dX3_newWatcher_49 : decode cX3_newWatcher 49 = .ok (.getfield 77, 3) := by decide +kernel
theorem dX3_newWatcher_52 : decode cX3_newWatcher 52 = .ok (.iastore, 1) := by decide +kernel
theorem dX3_newWatcher_53 : decode cX3_newWatcher 53 = .ok (.aload_n 0, 1) := by decide +kernel
theorem dX3_newWatcher_54 : decode cX3_newWatcher 54 = .ok (.getfield 20, 3) := by decide +kernel
theorem dX3_newWatcher_57 : decode cX3_newWatcher 57 = .ok (.bipush 11, 2) := by decide +kernel
theorem dX3_newWatcher_59 : decode cX3_newWatcher 59 = .ok (.invokevirtual 70, 3) := by decide +kernel
theorem dX3_newWatcher_62 : decode cX3_newWatcher 62 = .ok (.ifCond .eq 16, 3) := by decide +kernel
theorem dX3_newWatcher_65 : decode cX3_newWatcher 65 = .ok (.aload_n 0, 1) := by decide +kernel
theorem dX3_newWatcher_66 : decode cX3_newWatcher 66 = .ok (.getfield 20, 3) := by decide +kernel
theorem dX3_newWatcher_69 : decode cX3_newWatcher 69 = .ok (.iconst 0, 1) := by decide +kernel
theorem dX3_newWatcher_70 : decode cX3_newWatcher 70 = .ok (.bipush 9, 2) := by decide +kernel
theorem dX3_newWatcher_72 : decode cX3_newWatcher 72 = .ok (.invokevirtual 74, 3) := by decide +kernel
theorem dX3_newWatcher_75 : decode cX3_newWatcher 75 = .ok (.ifCond .ne 5, 3) := by decide +kernel
theorem dX3_newWatcher_78 : decode cX3_newWatcher 78 = .ok (.iconst 0, 1) := by decide +kernel
theorem dX3_newWatcher_79 : decode cX3_newWatcher 79 = .ok (.ireturn, 1) := by decide +kernel
theorem dX3_newWatcher_80 : decode cX3_newWatcher 80 = .ok (.aload_n 0, 1) := by decide +kernel
theorem dX3_newWatcher_81 : decode cX3_newWatcher 81 = .ok (.getfield 24, 3) := by decide +kernel
theorem dX3_newWatcher_84 : decode cX3_newWatcher 84 = .ok (.getfield 161, 3) := by decide +kernel
theorem dX3_newWatcher_87 : decode cX3_newWatcher 87 = .ok (.iload_n 1, 1) := by decide +kernel
theorem dX3_newWatcher_88 : decode cX3_newWatcher 88 = .ok (.aload_n 0, 1) := by decide +kernel
theorem dX3_newWatcher_89 : decode cX3_newWatcher 89 = .ok (.getfield 20, 3) := by decide +kernel
theorem dX3_newWatcher_92 : decode cX3_newWatcher 92 = .ok (.getfield 77, 3) := by decide +kernel
theorem dX3_newWatcher_95 : decode cX3_newWatcher 95 = .ok (.iastore, 1) := by decide +kernel
theorem dX3_newWatcher_96 : decode cX3_newWatcher 96 = .ok (.aload_n 0, 1) := by decide +kernel
theorem dX3_newWatcher_97 : decode cX3_newWatcher 97 = .ok (.getfield 24, 3) := by decide +kernel
theorem dX3_newWatcher_100 : decode cX3_newWatcher 100 = .ok (.getfield 122, 3) := by decide +kernel
theorem dX3_newWatcher_103 : decode cX3_newWatcher 103 = .ok (.iconst 2, 1) := by decide +kernel
theorem dX3_newWatcher_104 : decode cX3_newWatcher 104 = .ok (.dup2, 1) := by decide +kernel
theorem dX3_newWatcher_105 : decode cX3_newWatcher 105 = .ok (.iaload, 1) := by decide +kernel
theorem dX3_newWatcher_106 : decode cX3_newWatcher 106 = .ok (.iconst 1, 1) := by decide +kernel
theorem dX3_newWatcher_107 : decode cX3_newWatcher 107 = .ok (.iadd, 1) := by decide +kernel
theorem dX3_newWatcher_108 : decode cX3_newWatcher 108 = .ok (.iastore, 1) := by decide +kernel
theorem dX3_newWatcher_109 : decode cX3_newWatcher 109 = .ok (.iconst 1, 1) := by decide +kernel
theorem dX3_newWatcher_110 : decode cX3_newWatcher 110 = .ok (.ireturn, 1) := by decide +kernel
def f_X3_newWatcher (S : Hp) : Option (Int32 × Hp) :=
  ldP yH S 20 2 2 (fun p1 => ldI S (p1 + 1) 3 (2 : Int32) (fun v2 => ob2 (f_X10_takeWord (10 : Int32) S) (fun r3 S3 => if r3 = 0 then some ((0 : Int32), S3) else ob2 (f_X10_takeNumber (0 : Int32) (9 : Int32) S3) (fun r4 S4 => if r4 = 0 then some ((0 : Int32), S4) else ldP yH S4 20 2 2 (fun p5 => stI S4 (p5 + 11) 5 v2 (S4.1 10 8) (fun S6 => ob2 (f_X10_takeWord (11 : Int32) S6) (fun r7 S7 => if r7 = 0 then some ((0 : Int32), S7) else ob2 (f_X10_takeNumber (0 : Int32) (9 : Int32) S7) (fun r8 S8 => if r8 = 0 then some ((0 : Int32), S8) else ldP yH S8 20 2 2 (fun p9 => stI S8 (p9 + 12) 5 v2 (S8.1 10 8) (fun S10 => ldP yH S10 20 2 2 (fun p11 => ldI S10 (p11 + 1) 3 (2 : Int32) (fun v12 => stI S10 (p11 + 1) 3 (2 : Int32) (v12 + (1 : Int32)) (fun S13 => some ((1 : Int32), S13))))))))))))))
set_option maxHeartbeats 4000000 in
set_option maxRecDepth 100000 in
theorem c_X3_newWatcher (l : Launch) (E : Ev) (S : Hp) (r : (Int32 × Hp)) (h : f_X3_newWatcher S = some r) : ho_M l yH E yX3_newWatcher cX3_newWatcher 2 (some .boolean) 3 [.ref (E.2.1 20)] S (some (.int r.1), r.2) := by
  refine ho_in (by decide) (Nat.le_of_ble_eq_true rfl) ?_
  intro p e s m args below meth c C hR ls hl
  have C : ho_I p s m args meth c RX3 cX3_newWatcher 2 (some .boolean) := C
  have hl : lv_has ls 2 [(0, .ref (E.2.1 20))] := hl
  unfold f_X3_newWatcher at h
  refine lv_aload_n C.1 C.2.1 dX3_newWatcher_0 rfl (lv_at hl 0 rfl) ?_
  obtain ⟨p1, e1, hp1, h⟩ := ldP_ok h
  refine hr_getP C cf3 fH_RX3_24 hR aH_20 e1 dX3_newWatcher_1 ?_
  refine ho_getR (a' := (p1 + 1)) C cf2 fH_RX3_122 hR hp1 (pH_2_5 hp1.2) dX3_newWatcher_4 ?_
  refine lv_iconst (v := (2 : Int32)) C.1 C.2.1 dX3_newWatcher_7 (by decide) ?_
  obtain ⟨v2, e2, hi2, h⟩ := ldI_ok h
  refine hr_ild C hR (rH_2_1 hp1) hi2 e2 dX3_newWatcher_8 ?_
  refine lv_istore_n (lv' := [(1, .int v2), (0, .ref (E.2.1 20))]) C.1 C.2.1 dX3_newWatcher_9 rfl hl (by decide) rfl (fun ls hl => ?_)
  refine lv_aload_n C.1 C.2.1 dX3_newWatcher_10 rfl (lv_at hl 1 rfl) ?_
  refine ho_getR (a' := 10) C cf3 fH_RX3_20 hR aH_20 rfl dX3_newWatcher_11 ?_
  refine lv_bipush (v := (10 : Int32)) C.1 C.2.1 dX3_newWatcher_14 (by decide) ?_
  obtain ⟨r3, S3, h3, h⟩ := ob2_ok h
  refine hr_Vi (v := r3) (S' := S3) (As := [.int (10 : Int32)]) (rest := []) C cf10 (c_X10_takeWord l E (10 : Int32) _ _ h3) yv_X10_takeWord lk_RX3_70 rfl aH_10 rfl rfl hl.1 (Nat.le_of_ble_eq_true rfl) (by decide) (by decide) hR (ho_A hR) dX3_newWatcher_16 (fun H locs hR => ?_)
  refine lv_if_eq (tgt := 35) C.1 C.2.1 dX3_newWatcher_19 (by decide) (fun hc => ?_) (fun hc => ?_)
  · replace h := if_t h hc
    refine lv_iconst (v := (0 : Int32)) C.1 C.2.1 dX3_newWatcher_35 (by decide) ?_
    exact ho_zret C hR (Or.inl rfl) h dX3_newWatcher_36
  · replace h := if_f h hc
    refine lv_aload_n C.1 C.2.1 dX3_newWatcher_22 rfl (lv_at hl 1 rfl) ?_
    refine ho_getR (a' := 10) C cf3 fH_RX3_20 hR aH_20 rfl dX3_newWatcher_23 ?_
    refine lv_iconst (v := (0 : Int32)) C.1 C.2.1 dX3_newWatcher_26 (by decide) ?_
    refine lv_bipush (v := (9 : Int32)) C.1 C.2.1 dX3_newWatcher_27 (by decide) ?_
    obtain ⟨r4, S4, h4, h⟩ := ob2_ok h
    refine hr_Vi (v := r4) (S' := S4) (As := [.int (0 : Int32), .int (9 : Int32)]) (rest := []) C cf10 (c_X10_takeNumber l E (0 : Int32) (9 : Int32) _ _ h4) yv_X10_takeNumber lk_RX3_74 rfl aH_10 rfl rfl hl.1 (Nat.le_of_ble_eq_true rfl) (by decide) (by decide) hR (ho_A hR) dX3_newWatcher_29 (fun H locs hR => ?_)
    refine lv_if_ne (tgt := 37) C.1 C.2.1 dX3_newWatcher_32 (by decide) (fun hc => ?_) (fun hc => ?_)
    · replace h := if_f h hc
      refine lv_aload_n C.1 C.2.1 dX3_newWatcher_37 rfl (lv_at hl 1 rfl) ?_
      obtain ⟨p5, e5, hp5, h⟩ := ldP_ok h
      refine hr_getP C cf3 fH_RX3_24 hR aH_20 e5 dX3_newWatcher_38 ?_
      refine ho_getR (a' := (p5 + 11)) C cf2 fH_RX3_158 hR hp5 (pH_2_12 hp5.2) dX3_newWatcher_41 ?_
      refine lv_iload_n C.1 C.2.1 dX3_newWatcher_44 rfl (lv_at hl 0 rfl) ?_
      refine lv_aload_n C.1 C.2.1 dX3_newWatcher_45 rfl (lv_at hl 1 rfl) ?_
      refine ho_getR (a' := 10) C cf3 fH_RX3_20 hR aH_20 rfl dX3_newWatcher_46 ?_
      refine ho_getI C cf10 fH_RX3_77 hR aH_10 dX3_newWatcher_49 ?_
      obtain ⟨S6, e6, hi6, h⟩ := stI_ok h
      refine hr_ist C hR (rH_2_11 hp5) hi6 e6 dX3_newWatcher_52 (fun H locs hR => ?_)
      refine lv_aload_n C.1 C.2.1 dX3_newWatcher_53 rfl (lv_at hl 1 rfl) ?_
      refine ho_getR (a' := 10) C cf3 fH_RX3_20 hR aH_20 rfl dX3_newWatcher_54 ?_
      refine lv_bipush (v := (11 : Int32)) C.1 C.2.1 dX3_newWatcher_57 (by decide) ?_
      obtain ⟨r7, S7, h7, h⟩ := ob2_ok h
      refine hr_Vi (v := r7) (S' := S7) (As := [.int (11 : Int32)]) (rest := []) C cf10 (c_X10_takeWord l E (11 : Int32) _ _ h7) yv_X10_takeWord lk_RX3_70 rfl aH_10 rfl rfl hl.1 (Nat.le_of_ble_eq_true rfl) (by decide) (by decide) hR (ho_A hR) dX3_newWatcher_59 (fun H locs hR => ?_)
      refine lv_if_eq (tgt := 78) C.1 C.2.1 dX3_newWatcher_62 (by decide) (fun hc => ?_) (fun hc => ?_)
      · replace h := if_t h hc
        refine lv_iconst (v := (0 : Int32)) C.1 C.2.1 dX3_newWatcher_78 (by decide) ?_
        exact ho_zret C hR (Or.inl rfl) h dX3_newWatcher_79
      · replace h := if_f h hc
        refine lv_aload_n C.1 C.2.1 dX3_newWatcher_65 rfl (lv_at hl 1 rfl) ?_
        refine ho_getR (a' := 10) C cf3 fH_RX3_20 hR aH_20 rfl dX3_newWatcher_66 ?_
        refine lv_iconst (v := (0 : Int32)) C.1 C.2.1 dX3_newWatcher_69 (by decide) ?_
        refine lv_bipush (v := (9 : Int32)) C.1 C.2.1 dX3_newWatcher_70 (by decide) ?_
        obtain ⟨r8, S8, h8, h⟩ := ob2_ok h
        refine hr_Vi (v := r8) (S' := S8) (As := [.int (0 : Int32), .int (9 : Int32)]) (rest := []) C cf10 (c_X10_takeNumber l E (0 : Int32) (9 : Int32) _ _ h8) yv_X10_takeNumber lk_RX3_74 rfl aH_10 rfl rfl hl.1 (Nat.le_of_ble_eq_true rfl) (by decide) (by decide) hR (ho_A hR) dX3_newWatcher_72 (fun H locs hR => ?_)
        refine lv_if_ne (tgt := 80) C.1 C.2.1 dX3_newWatcher_75 (by decide) (fun hc => ?_) (fun hc => ?_)
        · replace h := if_f h hc
          refine lv_aload_n C.1 C.2.1 dX3_newWatcher_80 rfl (lv_at hl 1 rfl) ?_
          obtain ⟨p9, e9, hp9, h⟩ := ldP_ok h
          refine hr_getP C cf3 fH_RX3_24 hR aH_20 e9 dX3_newWatcher_81 ?_
          refine ho_getR (a' := (p9 + 12)) C cf2 fH_RX3_161 hR hp9 (pH_2_13 hp9.2) dX3_newWatcher_84 ?_
          refine lv_iload_n C.1 C.2.1 dX3_newWatcher_87 rfl (lv_at hl 0 rfl) ?_
          refine lv_aload_n C.1 C.2.1 dX3_newWatcher_88 rfl (lv_at hl 1 rfl) ?_
          refine ho_getR (a' := 10) C cf3 fH_RX3_20 hR aH_20 rfl dX3_newWatcher_89 ?_
          refine ho_getI C cf10 fH_RX3_77 hR aH_10 dX3_newWatcher_92 ?_
          obtain ⟨S10, e10, hi10, h⟩ := stI_ok h
          refine hr_ist C hR (rH_2_12 hp9) hi10 e10 dX3_newWatcher_95 (fun H locs hR => ?_)
          refine lv_aload_n C.1 C.2.1 dX3_newWatcher_96 rfl (lv_at hl 1 rfl) ?_
          obtain ⟨p11, e11, hp11, h⟩ := ldP_ok h
          refine hr_getP C cf3 fH_RX3_24 hR aH_20 e11 dX3_newWatcher_97 ?_
          refine ho_getR (a' := (p11 + 1)) C cf2 fH_RX3_122 hR hp11 (pH_2_5 hp11.2) dX3_newWatcher_100 ?_
          refine lv_iconst (v := (2 : Int32)) C.1 C.2.1 dX3_newWatcher_103 (by decide) ?_
          refine lv_dup2_11 C.1 C.2.1 dX3_newWatcher_104 rfl rfl ?_
          obtain ⟨v12, e12, hi12, h⟩ := ldI_ok h
          refine hr_ild C hR (rH_2_1 hp11) hi12 e12 dX3_newWatcher_105 ?_
          refine lv_iconst (v := (1 : Int32)) C.1 C.2.1 dX3_newWatcher_106 (by decide) ?_
          refine lv_iadd C.1 C.2.1 dX3_newWatcher_107 ?_
          obtain ⟨S13, e13, hi13, h⟩ := stI_ok h
          refine hr_ist C hR (rH_2_1 hp11) hi13 e13 dX3_newWatcher_108 (fun H locs hR => ?_)
          refine lv_iconst (v := (1 : Int32)) C.1 C.2.1 dX3_newWatcher_109 (by decide) ?_
          exact ho_zret C hR (Or.inr rfl) h dX3_newWatcher_110
        · replace h := if_t h hc
          refine lv_iconst (v := (0 : Int32)) C.1 C.2.1 dX3_newWatcher_78 (by decide) ?_
          exact ho_zret C hR (Or.inl rfl) h dX3_newWatcher_79
    · replace h := if_t h hc
      refine lv_iconst (v := (0 : Int32)) C.1 C.2.1 dX3_newWatcher_35 (by decide) ?_
      exact ho_zret C hR (Or.inl rfl) h dX3_newWatcher_36
theorem dX3_onlyOne_0 : decode cX3_onlyOne 0 = .ok (.iconst 1, 1) := by decide +kernel
theorem dX3_onlyOne_1 : decode cX3_onlyOne 1 = .ok (.aload_n 0, 1) := by decide +kernel
theorem dX3_onlyOne_2 : decode cX3_onlyOne 2 = .ok (.getfield 20, 3) := by decide +kernel
theorem dX3_onlyOne_5 : decode cX3_onlyOne 5 = .ok (.getfield 89, 3) := by decide +kernel
theorem dX3_onlyOne_8 : decode cX3_onlyOne 8 = .ok (.ishl, 1) := by decide +kernel
theorem dX3_onlyOne_9 : decode cX3_onlyOne 9 = .ok (.istore_n 1, 1) := by decide +kernel
theorem dX3_onlyOne_10 : decode cX3_onlyOne 10 = .ok (.aload_n 0, 1) := by decide +kernel
theorem dX3_onlyOne_11 : decode cX3_onlyOne 11 = .ok (.getfield 11, 3) := by decide +kernel
theorem dX3_onlyOne_14 : decode cX3_onlyOne 14 = .ok (.iload_n 1, 1) := by decide +kernel
theorem dX3_onlyOne_15 : decode cX3_onlyOne 15 = .ok (.iand, 1) := by decide +kernel
theorem dX3_onlyOne_16 : decode cX3_onlyOne 16 = .ok (.ifCond .eq 19, 3) := by decide +kernel
theorem dX3_onlyOne_19 : decode cX3_onlyOne 19 = .ok (.aload_n 0, 1) := by decide +kernel
theorem dX3_onlyOne_20 : decode cX3_onlyOne 20 = .ok (.getfield 20, 3) := by decide +kernel
theorem dX3_onlyOne_23 : decode cX3_onlyOne 23 = .ok (.iconst 5, 1) := by decide +kernel
theorem dX3_onlyOne_24 : decode cX3_onlyOne 24 = .ok (.aload_n 0, 1) := by decide +kernel
theorem dX3_onlyOne_25 : decode cX3_onlyOne 25 = .ok (.getfield 20, 3) := by decide +kernel
theorem dX3_onlyOne_28 : decode cX3_onlyOne 28 = .ok (.getfield 63, 3) := by decide +kernel
theorem dX3_onlyOne_31 : decode cX3_onlyOne 31 = .ok (.invokevirtual 66, 3) := by decide +kernel
theorem dX3_onlyOne_34 : decode cX3_onlyOne 34 = .ok (.ireturn, 1) := by decide +kernel
theorem dX3_onlyOne_35 : decode cX3_onlyOne 35 = .ok (.aload_n 0, 1) := by decide +kernel
theorem dX3_onlyOne_36 : decode cX3_onlyOne 36 = .ok (.dup, 1) := by decide +kernel
theorem dX3_onlyOne_37 : decode cX3_onlyOne 37 = .ok (.getfield 11, 3) := by decide +kernel
theorem dX3_onlyOne_40 : decode cX3_onlyOne 40 = .ok (.iload_n 1, 1) := by decide +kernel
theorem dX3_onlyOne_41 : decode cX3_onlyOne 41 = .ok (.ior, 1) := by decide +kernel
theorem dX3_onlyOne_42 : decode cX3_onlyOne 42 = .ok (.putfield 11, 3) := by decide +kernel
theorem dX3_onlyOne_45 : decode cX3_onlyOne 45 = .ok (.aload_n 0, 1) := by decide +kernel
theorem dX3_onlyOne_46 : decode cX3_onlyOne 46 = .ok (.getfield 20, 3) := by decide +kernel
theorem dX3_onlyOne_49 : decode cX3_onlyOne 49 = .ok (.invokevirtual 126, 3) := by decide +kernel
theorem dX3_onlyOne_52 : decode cX3_onlyOne 52 = .ok (.iconst 1, 1) := by decide +kernel
theorem dX3_onlyOne_53 : decode cX3_onlyOne 53 = .ok (.ireturn, 1) := by decide +kernel
def f_X3_onlyOne (S : Hp) : Option (Int32 × Hp) :=
  le1 ((1 : Int32) <<< ((S.1 10 6) &&& 31)) (fun v1 => if ((S.1 20 3) &&& v1) = 0 then le1 (ho_sI S 20 3 ((S.1 20 3) ||| v1)) (fun S2 => ob (f_X10_next S2) (fun S3 => some ((1 : Int32), S3))) else ob2 (f_X10_wrong (5 : Int32) (S.1 10 5) S) (fun r4 S4 => tr r4 (some (r4, S4))))
set_option maxHeartbeats 4000000 in
set_option maxRecDepth 100000 in
theorem c_X3_onlyOne (l : Launch) (E : Ev) (S : Hp) (r : (Int32 × Hp)) (h : f_X3_onlyOne S = some r) : ho_M l yH E yX3_onlyOne cX3_onlyOne 2 (some .boolean) 2 [.ref (E.2.1 20)] S (some (.int r.1), r.2) := by
  refine ho_in (by decide) (Nat.le_of_ble_eq_true rfl) ?_
  intro p e s m args below meth c C hR ls hl
  have C : ho_I p s m args meth c RX3 cX3_onlyOne 2 (some .boolean) := C
  have hl : lv_has ls 2 [(0, .ref (E.2.1 20))] := hl
  unfold f_X3_onlyOne at h
  refine lv_iconst (v := (1 : Int32)) C.1 C.2.1 dX3_onlyOne_0 (by decide) ?_
  refine lv_aload_n C.1 C.2.1 dX3_onlyOne_1 rfl (lv_at hl 0 rfl) ?_
  refine ho_getR (a' := 10) C cf3 fH_RX3_20 hR aH_20 rfl dX3_onlyOne_2 ?_
  refine ho_getI C cf10 fH_RX3_89 hR aH_10 dX3_onlyOne_5 ?_
  refine lv_ishl C.1 C.2.1 dX3_onlyOne_8 ?_
  refine lv_topi (fun v1 e1 => ?_)
  replace h := le1_at e1 h
  refine lv_istore_n (lv' := [(1, .int v1), (0, .ref (E.2.1 20))]) C.1 C.2.1 dX3_onlyOne_9 rfl hl (by decide) rfl (fun ls hl => ?_)
  refine lv_aload_n C.1 C.2.1 dX3_onlyOne_10 rfl (lv_at hl 1 rfl) ?_
  refine ho_getI C cf3 fH_RX3_11 hR aH_20 dX3_onlyOne_11 ?_
  refine lv_iload_n C.1 C.2.1 dX3_onlyOne_14 rfl (lv_at hl 0 rfl) ?_
  refine lv_iand C.1 C.2.1 dX3_onlyOne_15 ?_
  refine lv_if_eq (tgt := 35) C.1 C.2.1 dX3_onlyOne_16 (by decide) (fun hc => ?_) (fun hc => ?_)
  · replace h := if_t h hc
    refine lv_aload_n C.1 C.2.1 dX3_onlyOne_35 rfl (lv_at hl 1 rfl) ?_
    refine lv_dup C.1 C.2.1 dX3_onlyOne_36 rfl ?_
    refine ho_getI C cf3 fH_RX3_11 hR aH_20 dX3_onlyOne_37 ?_
    refine lv_iload_n C.1 C.2.1 dX3_onlyOne_40 rfl (lv_at hl 0 rfl) ?_
    refine lv_ior C.1 C.2.1 dX3_onlyOne_41 ?_
    obtain ⟨S2, e2, h⟩ := le1_ok h
    refine hr_putI C cf3 fH_RX3_11 hR aH_20 e2 dX3_onlyOne_42 (fun H locs hR => ?_)
    refine lv_aload_n C.1 C.2.1 dX3_onlyOne_45 rfl (lv_at hl 1 rfl) ?_
    refine ho_getR (a' := 10) C cf3 fH_RX3_20 hR aH_20 rfl dX3_onlyOne_46 ?_
    obtain ⟨S3, h3, h⟩ := ob_ok h
    refine hr_Vv (S' := S3) (As := []) (rest := []) C cf10 (c_X10_next l E _ _ h3) yv_X10_next lk_RX3_126 rfl aH_10 rfl rfl hl.1 (Nat.le_of_ble_eq_true rfl) (by decide) (by decide) hR (ho_A hR) dX3_onlyOne_49 (fun H locs hR => ?_)
    refine lv_iconst (v := (1 : Int32)) C.1 C.2.1 dX3_onlyOne_52 (by decide) ?_
    exact ho_zret C hR (Or.inr rfl) h dX3_onlyOne_53
  · replace h := if_f h hc
    refine lv_aload_n C.1 C.2.1 dX3_onlyOne_19 rfl (lv_at hl 1 rfl) ?_
    refine ho_getR (a' := 10) C cf3 fH_RX3_20 hR aH_20 rfl dX3_onlyOne_20 ?_
    refine lv_iconst (v := (5 : Int32)) C.1 C.2.1 dX3_onlyOne_23 (by decide) ?_
    refine lv_aload_n C.1 C.2.1 dX3_onlyOne_24 rfl (lv_at hl 1 rfl) ?_
    refine ho_getR (a' := 10) C cf3 fH_RX3_20 hR aH_20 rfl dX3_onlyOne_25 ?_
    refine ho_getI C cf10 fH_RX3_63 hR aH_10 dX3_onlyOne_28 ?_
    obtain ⟨r4, S4, h4, h⟩ := ob2_ok h
    refine hr_Vi (v := r4) (S' := S4) (As := [.int (5 : Int32), .int (S.1 10 5)]) (rest := []) C cf10 (c_X10_wrong l E (5 : Int32) (S.1 10 5) _ _ h4) yv_X10_wrong lk_RX3_66 rfl aH_10 rfl rfl hl.1 (Nat.le_of_ble_eq_true rfl) (by decide) (by decide) hR (ho_A hR) dX3_onlyOne_31 (fun H locs hR => ?_)
    obtain ⟨hz, h⟩ := tr_ok h
    exact ho_zret C hR hz h dX3_onlyOne_34
theorem dX7_aim_0 : decode cX7_aim 0 = .ok (.aload_n 0, 1) := by decide +kernel
theorem dX7_aim_1 : decode cX7_aim 1 = .ok (.aload_n 1, 1) := by decide +kernel
theorem dX7_aim_2 : decode cX7_aim 2 = .ok (.putfield 19, 3) := by decide +kernel
theorem dX7_aim_5 : decode cX7_aim 5 = .ok (.aload_n 0, 1) := by decide +kernel
theorem dX7_aim_6 : decode cX7_aim 6 = .ok (.getfield 19, 3) := by decide +kernel
theorem dX7_aim_9 : decode cX7_aim 9 = .ok (.invokevirtual 34, 3) := by decide +kernel
theorem dX7_aim_12 : decode cX7_aim 12 = .ok (.aload_n 0, 1) := by decide +kernel
theorem dX7_aim_13 : decode cX7_aim 13 = .ok (.iload_n 2, 1) := by decide +kernel
theorem dX7_aim_14 : decode cX7_aim 14 = .ok (.putfield 9, 3) := by decide +kernel
theorem dX7_aim_17 : decode cX7_aim 17 = .ok (.return_, 1) := by decide +kernel
def f_X7_aim (a0 : Nat) (a1 : Nat) (x2 : Int32) (S : Hp) : Option Hp :=
  le1 (ho_sP S a0 1 a1) (fun S1 => ldP yH S1 a0 1 4 (fun p2 => ob (f_X4_clear p2 S1) (fun S3 => le1 (ho_sI S3 a0 2 x2) (fun S4 => some S4))))
set_option maxHeartbeats 4000000 in
set_option maxRecDepth 100000 in
theorem c_X7_aim (l : Launch) (E : Ev) (a0 : Nat) (a1 : Nat) (x2 : Int32) (ha0 : a0 ∈ yH.1 ∧ yH.2.1 a0 = (1, 7)) (ha1 : a1 ∈ yH.1 ∧ yH.2.1 a1 = (1, 4)) (S : Hp) (r : Hp) (h : f_X7_aim a0 a1 x2 S = some r) : ho_M l yH E yX7_aim cX7_aim 3 none 1 [.ref (E.2.1 a0), .ref (E.2.1 a1), .int x2] S (none, r) := by
  refine ho_in (by decide) (Nat.le_of_ble_eq_true rfl) ?_
  intro p e s m args below meth c C hR ls hl
  have C : ho_I p s m args meth c RX7 cX7_aim 3 none := C
  have hl : lv_has ls 3 [(0, .ref (E.2.1 a0)), (1, .ref (E.2.1 a1)), (2, .int x2)] := hl
  unfold f_X7_aim at h
  refine lv_aload_n C.1 C.2.1 dX7_aim_0 rfl (lv_at hl 0 rfl) ?_
  refine lv_aload_n C.1 C.2.1 dX7_aim_1 rfl (lv_at hl 1 rfl) ?_
  obtain ⟨S1, e1, h⟩ := le1_ok h
  refine hr_putP C cf7 fH_RX7_19 hR ha0 e1 dX7_aim_2 (fun H locs hR => ?_)
  refine lv_aload_n C.1 C.2.1 dX7_aim_5 rfl (lv_at hl 0 rfl) ?_
  obtain ⟨p2, e2, hp2, h⟩ := ldP_ok h
  refine hr_getP C cf7 fH_RX7_19 hR ha0 e2 dX7_aim_6 ?_
  obtain ⟨S3, h3, h⟩ := ob_ok h
  refine hr_Vv (S' := S3) (As := []) (rest := []) C cf4 (c_X4_clear l E p2 hp2 _ _ h3) yv_X4_clear lk_RX7_34 rfl hp2 rfl rfl hl.1 (Nat.le_of_ble_eq_true rfl) (by decide) (by decide) hR (ho_A hR) dX7_aim_9 (fun H locs hR => ?_)
  refine lv_aload_n C.1 C.2.1 dX7_aim_12 rfl (lv_at hl 0 rfl) ?_
  refine lv_iload_n C.1 C.2.1 dX7_aim_13 rfl (lv_at hl 2 rfl) ?_
  obtain ⟨S4, e4, h⟩ := le1_ok h
  refine hr_putI C cf7 fH_RX7_9 hR ha0 e4 dX7_aim_14 (fun H locs hR => ?_)
  exact ho_vret C hR h dX7_aim_17
theorem dX7_opens_0 : decode cX7_opens 0 = .ok (.iload_n 1, 1) := by decide +kernel
theorem dX7_opens_1 : decode cX7_opens 1 = .ok (.bipush 6, 2) := by decide +kernel
theorem dX7_opens_3 : decode cX7_opens 3 = .ok (.if_icmp .lt 19, 3) := by decide +kernel
theorem dX7_opens_6 : decode cX7_opens 6 = .ok (.aload_n 0, 1) := by decide +kernel
theorem dX7_opens_7 : decode cX7_opens 7 = .ok (.getfield 15, 3) := by decide +kernel
theorem dX7_opens_10 : decode cX7_opens 10 = .ok (.iconst 4, 1) := by decide +kernel
theorem dX7_opens_11 : decode cX7_opens 11 = .ok (.aload_n 0, 1) := by decide +kernel
theorem dX7_opens_12 : decode cX7_opens 12 = .ok (.getfield 15, 3) := by decide +kernel
theorem dX7_opens_15 : decode cX7_opens 15 = .ok (.getfield 70, 3) := by decide +kernel
theorem dX7_opens_18 : decode cX7_opens 18 = .ok (.invokevirtual 73, 3) := by decide +kernel
theorem dX7_opens_21 : decode cX7_opens 21 = .ok (.ireturn, 1) := by decide +kernel
theorem dX7_opens_22 : decode cX7_opens 22 = .ok (.aload_n 0, 1) := by decide +kernel
theorem dX7_opens_23 : decode cX7_opens 23 = .ok (.getfield 15, 3) := by decide +kernel
theorem dX7_opens_26 : decode cX7_opens 26 = .ok (.invokevirtual 47, 3) := by decide +kernel
theorem dX7_opens_29 : decode cX7_opens 29 = .ok (.iconst 1, 1) := by decide +kernel
theorem dX7_opens_30 : decode cX7_opens 30 = .ok (.ireturn, 1) := by decide +kernel
def f_X7_opens (a0 : Nat) (x1 : Int32) (S : Hp) : Option (Int32 × Hp) :=
  if x1 < (6 : Int32) then ob (f_X10_next S) (fun S1 => some ((1 : Int32), S1)) else ob2 (f_X10_wrong (4 : Int32) (S.1 10 5) S) (fun r2 S2 => tr r2 (some (r2, S2)))
set_option maxHeartbeats 4000000 in
set_option maxRecDepth 100000 in
theorem c_X7_opens (l : Launch) (E : Ev) (a0 : Nat) (x1 : Int32) (ha0 : a0 ∈ yH.1 ∧ yH.2.1 a0 = (1, 7)) (S : Hp) (r : (Int32 × Hp)) (h : f_X7_opens a0 x1 S = some r) : ho_M l yH E yX7_opens cX7_opens 2 (some .boolean) 2 [.ref (E.2.1 a0), .int x1] S (some (.int r.1), r.2) := by
  refine ho_in (by decide) (Nat.le_of_ble_eq_true rfl) ?_
  intro p e s m args below meth c C hR ls hl
  have C : ho_I p s m args meth c RX7 cX7_opens 2 (some .boolean) := C
  have hl : lv_has ls 2 [(0, .ref (E.2.1 a0)), (1, .int x1)] := hl
  unfold f_X7_opens at h
  refine lv_iload_n C.1 C.2.1 dX7_opens_0 rfl (lv_at hl 1 rfl) ?_
  refine lv_bipush (v := (6 : Int32)) C.1 C.2.1 dX7_opens_1 (by decide) ?_
  refine lv_icmp_lt (tgt := 22) C.1 C.2.1 dX7_opens_3 (by decide) (fun hc => ?_) (fun hc => ?_)
  · replace h := if_t h hc
    refine lv_aload_n C.1 C.2.1 dX7_opens_22 rfl (lv_at hl 0 rfl) ?_
    refine ho_getR (a' := 10) C cf7 fH_RX7_15 hR ha0 (pH_7_0 ha0.2) dX7_opens_23 ?_
    obtain ⟨S1, h1, h⟩ := ob_ok h
    refine hr_Vv (S' := S1) (As := []) (rest := []) C cf10 (c_X10_next l E _ _ h1) yv_X10_next lk_RX7_47 rfl aH_10 rfl rfl hl.1 (Nat.le_of_ble_eq_true rfl) (by decide) (by decide) hR (ho_A hR) dX7_opens_26 (fun H locs hR => ?_)
    refine lv_iconst (v := (1 : Int32)) C.1 C.2.1 dX7_opens_29 (by decide) ?_
    exact ho_zret C hR (Or.inr rfl) h dX7_opens_30
  · replace h := if_f h hc
    refine lv_aload_n C.1 C.2.1 dX7_opens_6 rfl (lv_at hl 0 rfl) ?_
    refine ho_getR (a' := 10) C cf7 fH_RX7_15 hR ha0 (pH_7_0 ha0.2) dX7_opens_7 ?_
    refine lv_iconst (v := (4 : Int32)) C.1 C.2.1 dX7_opens_10 (by decide) ?_
    refine lv_aload_n C.1 C.2.1 dX7_opens_11 rfl (lv_at hl 0 rfl) ?_
    refine ho_getR (a' := 10) C cf7 fH_RX7_15 hR ha0 (pH_7_0 ha0.2) dX7_opens_12 ?_
    refine ho_getI C cf10 fH_RX7_70 hR aH_10 dX7_opens_15 ?_
    obtain ⟨r2, S2, h2, h⟩ := ob2_ok h
    refine hr_Vi (v := r2) (S' := S2) (As := [.int (4 : Int32), .int (S.1 10 5)]) (rest := []) C cf10 (c_X10_wrong l E (4 : Int32) (S.1 10 5) _ _ h2) yv_X10_wrong lk_RX7_73 rfl aH_10 rfl rfl hl.1 (Nat.le_of_ble_eq_true rfl) (by decide) (by decide) hR (ho_A hR) dX7_opens_18 (fun H locs hR => ?_)
    obtain ⟨hz, h⟩ := tr_ok h
    exact ho_zret C hR hz h dX7_opens_21
theorem dX7_isPart_0 : decode cX7_isPart 0 = .ok (.aload_n 0, 1) := by decide +kernel
theorem dX7_isPart_1 : decode cX7_isPart 1 = .ok (.getfield 15, 3) := by decide +kernel
theorem dX7_isPart_4 : decode cX7_isPart 4 = .ok (.getfield 83, 3) := by decide +kernel
theorem dX7_isPart_7 : decode cX7_isPart 7 = .ok (.iconst 1, 1) := by decide +kernel
theorem dX7_isPart_8 : decode cX7_isPart 8 = .ok (.if_icmp .ne 47, 3) := by decide +kernel
theorem dX7_isPart_11 : decode cX7_isPart 11 = .ok (.aload_n 0, 1) := by decide +kernel
theorem dX7_isPart_12 : decode cX7_isPart 12 = .ok (.getfield 15, 3) := by decide +kernel
theorem dX7_isPart_15 : decode cX7_isPart 15 = .ok (.getfield 99, 3) := by decide +kernel
theorem dX7_isPart_18 : decode cX7_isPart 18 = .ok (.ifCond .lt 37, 3) := by decide +kernel
theorem dX7_isPart_21 : decode cX7_isPart 21 = .ok (.aload_n 0, 1) := by decide +kernel
theorem dX7_isPart_22 : decode cX7_isPart 22 = .ok (.getfield 15, 3) := by decide +kernel
theorem dX7_isPart_25 : decode cX7_isPart 25 = .ok (.getfield 99, 3) := by decide +kernel
theorem dX7_isPart_28 : decode cX7_isPart 28 = .ok (.bipush 29, 2) := by decide +kernel
theorem dX7_isPart_30 : decode cX7_isPart 30 = .ok (.if_icmp .ge 25, 3) := by decide +kernel
theorem dX7_isPart_33 : decode cX7_isPart 33 = .ok (.aload_n 0, 1) := by decide +kernel
theorem dX7_isPart_34 : decode cX7_isPart 34 = .ok (.getfield 9, 3) := by decide +kernel
theorem dX7_isPart_37 : decode cX7_isPart 37 = .ok (.aload_n 0, 1) := by decide +kernel
theorem dX7_isPart_38 : decode cX7_isPart 38 = .ok (.getfield 15, 3) := by decide +kernel
theorem dX7_isPart_41 : decode cX7_isPart 41 = .ok (.getfield 99, 3) := by decide +kernel
theorem dX7_isPart_44 : decode cX7_isPart 44 = .ok (.ishr, 1) := by decide +kernel
theorem dX7_isPart_45 : decode cX7_isPart 45 = .ok (.iconst 1, 1) := by decide +kernel
theorem dX7_isPart_46 : decode cX7_isPart 46 = .ok (.iand, 1) := by decide +kernel
theorem dX7_isPart_47 : decode cX7_isPart 47 = .ok (.iconst 1, 1) := by decide +kernel
theorem dX7_isPart_48 : decode cX7_isPart 48 = .ok (.if_icmp .ne 7, 3) := by decide +kernel
theorem dX7_isPart_51 : decode cX7_isPart 51 = .ok (.iconst 1, 1) := by decide +kernel
theorem dX7_isPart_52 : decode cX7_isPart 52 = .ok (.goto 4, 3) := by decide +kernel
theorem dX7_isPart_55 : decode cX7_isPart 55 = .ok (.iconst 0, 1) := by decide +kernel
theorem dX7_isPart_56 : decode cX7_isPart 56 = .ok (.ireturn, 1) := by decide +kernel
def f_X7_isPart (a0 : Nat) (S : Hp) : Option (Int32 × Hp) :=
  if (S.1 10 4) = (1 : Int32) then if (S.1 10 6) < 0 then some ((0 : Int32), S) else if (29 : Int32) ≤ (S.1 10 6) then some ((0 : Int32), S) else if (((S.1 a0 2) >>> ((S.1 10 6) &&& 31)) &&& (1 : Int32)) = (1 : Int32) then some ((1 : Int32), S) else some ((0 : Int32), S) else some ((0 : Int32), S)
set_option maxHeartbeats 4000000 in
set_option maxRecDepth 100000 in
theorem c_X7_isPart (l : Launch) (E : Ev) (a0 : Nat) (ha0 : a0 ∈ yH.1 ∧ yH.2.1 a0 = (1, 7)) (S : Hp) (r : (Int32 × Hp)) (h : f_X7_isPart a0 S = some r) : ho_M l yH E yX7_isPart cX7_isPart 1 (some .boolean) 0 [.ref (E.2.1 a0)] S (some (.int r.1), r.2) := by
  refine ho_in (by decide) (Nat.le_of_ble_eq_true rfl) ?_
  intro p e s m args below meth c C hR ls hl
  have C : ho_I p s m args meth c RX7 cX7_isPart 1 (some .boolean) := C
  have hl : lv_has ls 1 [(0, .ref (E.2.1 a0))] := hl
  unfold f_X7_isPart at h
  refine lv_aload_n C.1 C.2.1 dX7_isPart_0 rfl (lv_at hl 0 rfl) ?_
  refine ho_getR (a' := 10) C cf7 fH_RX7_15 hR ha0 (pH_7_0 ha0.2) dX7_isPart_1 ?_
  refine ho_getI C cf10 fH_RX7_83 hR aH_10 dX7_isPart_4 ?_
  refine lv_iconst (v := (1 : Int32)) C.1 C.2.1 dX7_isPart_7 (by decide) ?_
  refine lv_icmp_ne (tgt := 55) C.1 C.2.1 dX7_isPart_8 (by decide) (fun hc => ?_) (fun hc => ?_)
  · replace h := if_f h hc
    refine lv_iconst (v := (0 : Int32)) C.1 C.2.1 dX7_isPart_55 (by decide) ?_
    exact ho_zret C hR (Or.inl rfl) h dX7_isPart_56
  · replace h := if_t h hc
    refine lv_aload_n C.1 C.2.1 dX7_isPart_11 rfl (lv_at hl 0 rfl) ?_
    refine ho_getR (a' := 10) C cf7 fH_RX7_15 hR ha0 (pH_7_0 ha0.2) dX7_isPart_12 ?_
    refine ho_getI C cf10 fH_RX7_99 hR aH_10 dX7_isPart_15 ?_
    refine lv_if_lt (tgt := 55) C.1 C.2.1 dX7_isPart_18 (by decide) (fun hc => ?_) (fun hc => ?_)
    · replace h := if_t h hc
      refine lv_iconst (v := (0 : Int32)) C.1 C.2.1 dX7_isPart_55 (by decide) ?_
      exact ho_zret C hR (Or.inl rfl) h dX7_isPart_56
    · replace h := if_f h hc
      refine lv_aload_n C.1 C.2.1 dX7_isPart_21 rfl (lv_at hl 0 rfl) ?_
      refine ho_getR (a' := 10) C cf7 fH_RX7_15 hR ha0 (pH_7_0 ha0.2) dX7_isPart_22 ?_
      refine ho_getI C cf10 fH_RX7_99 hR aH_10 dX7_isPart_25 ?_
      refine lv_bipush (v := (29 : Int32)) C.1 C.2.1 dX7_isPart_28 (by decide) ?_
      refine lv_icmp_ge (tgt := 55) C.1 C.2.1 dX7_isPart_30 (by decide) (fun hc => ?_) (fun hc => ?_)
      · replace h := if_t h hc
        refine lv_iconst (v := (0 : Int32)) C.1 C.2.1 dX7_isPart_55 (by decide) ?_
        exact ho_zret C hR (Or.inl rfl) h dX7_isPart_56
      · replace h := if_f h hc
        refine lv_aload_n C.1 C.2.1 dX7_isPart_33 rfl (lv_at hl 0 rfl) ?_
        refine ho_getI C cf7 fH_RX7_9 hR ha0 dX7_isPart_34 ?_
        refine lv_aload_n C.1 C.2.1 dX7_isPart_37 rfl (lv_at hl 0 rfl) ?_
        refine ho_getR (a' := 10) C cf7 fH_RX7_15 hR ha0 (pH_7_0 ha0.2) dX7_isPart_38 ?_
        refine ho_getI C cf10 fH_RX7_99 hR aH_10 dX7_isPart_41 ?_
        refine lv_ishr C.1 C.2.1 dX7_isPart_44 ?_
        refine lv_iconst (v := (1 : Int32)) C.1 C.2.1 dX7_isPart_45 (by decide) ?_
        refine lv_iand C.1 C.2.1 dX7_isPart_46 ?_
        refine lv_iconst (v := (1 : Int32)) C.1 C.2.1 dX7_isPart_47 (by decide) ?_
        refine lv_icmp_ne (tgt := 55) C.1 C.2.1 dX7_isPart_48 (by decide) (fun hc => ?_) (fun hc => ?_)
        · replace h := if_f h hc
          refine lv_iconst (v := (0 : Int32)) C.1 C.2.1 dX7_isPart_55 (by decide) ?_
          exact ho_zret C hR (Or.inl rfl) h dX7_isPart_56
        · replace h := if_t h hc
          refine lv_iconst (v := (1 : Int32)) C.1 C.2.1 dX7_isPart_51 (by decide) ?_
          refine lv_goto (tgt := 56) C.1 C.2.1 dX7_isPart_52 (by decide) ?_
          exact ho_zret C hR (Or.inr rfl) h dX7_isPart_56
theorem dX7_test_0 : decode cX7_test 0 = .ok (.aload_n 0, 1) := by decide +kernel
theorem dX7_test_1 : decode cX7_test 1 = .ok (.iload_n 1, 1) := by decide +kernel
theorem dX7_test_2 : decode cX7_test 2 = .ok (.invokevirtual 39, 3) := by decide +kernel
theorem dX7_test_5 : decode cX7_test 5 = .ok (.ifCond .ne 5, 3) := by decide +kernel
theorem dX7_test_8 : decode cX7_test 8 = .ok (.iconst 0, 1) := by decide +kernel
theorem dX7_test_9 : decode cX7_test 9 = .ok (.ireturn, 1) := by decide +kernel
theorem dX7_test_10 : decode cX7_test 10 = .ok (.iconst 0, 1) := by decide +kernel
theorem dX7_test_11 : decode cX7_test 11 = .ok (.istore_n 2, 1) := by decide +kernel
theorem dX7_test_12 : decode cX7_test 12 = .ok (.iload_n 2, 1) := by decide +kernel
theorem dX7_test_13 : decode cX7_test 13 = .ok (.sipush 1600, 3) := by decide +kernel
theorem dX7_test_16 : decode cX7_test 16 = .ok (.if_icmp .ge 48, 3) := by decide +kernel
theorem dX7_test_19 : decode cX7_test 19 = .ok (.aload_n 0, 1) := by decide +kernel
theorem dX7_test_20 : decode cX7_test 20 = .ok (.getfield 15, 3) := by decide +kernel
theorem dX7_test_23 : decode cX7_test 23 = .ok (.bipush 23, 2) := by decide +kernel
theorem dX7_test_25 : decode cX7_test 25 = .ok (.invokevirtual 44, 3) := by decide +kernel
theorem dX7_test_28 : decode cX7_test 28 = .ok (.ifCond .eq 36, 3) := by decide +kernel
theorem dX7_test_31 : decode cX7_test 31 = .ok (.aload_n 0, 1) := by decide +kernel
theorem dX7_test_32 : decode cX7_test 32 = .ok (.getfield 15, 3) := by decide +kernel
theorem dX7_test_35 : decode cX7_test 35 = .ok (.invokevirtual 47, 3) := by decide +kernel
theorem dX7_test_38 : decode cX7_test 38 = .ok (.aload_n 0, 1) := by decide +kernel
theorem dX7_test_39 : decode cX7_test 39 = .ok (.iload_n 1, 1) := by decide +kernel
theorem dX7_test_40 : decode cX7_test 40 = .ok (.invokevirtual 39, 3) := by decide +kernel
theorem dX7_test_43 : decode cX7_test 43 = .ok (.ifCond .ne 5, 3) := by decide +kernel
theorem dX7_test_46 : decode cX7_test 46 = .ok (.iconst 0, 1) := by decide +kernel
theorem dX7_test_47 : decode cX7_test 47 = .ok (.ireturn, 1) := by decide +kernel
theorem dX7_test_48 : decode cX7_test 48 = .ok (.aload_n 0, 1) := by decide +kernel
theorem dX7_test_49 : decode cX7_test 49 = .ok (.getfield 19, 3) := by decide +kernel
theorem dX7_test_52 : decode cX7_test 52 = .ok (.sipush 10107, 3) := by decide +kernel
theorem dX7_test_55 : decode cX7_test 55 = .ok (.invokevirtual 50, 3) := by decide +kernel
theorem dX7_test_58 : decode cX7_test 58 = .ok (.iinc 2 1, 3) := by decide +kernel
theorem dX7_test_61 : decode cX7_test 61 = .ok (.goto (-49), 3) := by decide +kernel
theorem dX7_test_64 : decode cX7_test 64 = .ok (.iconst 1, 1) := by decide +kernel
theorem dX7_test_65 : decode cX7_test 65 = .ok (.ireturn, 1) := by decide +kernel
def f_X7_test_12 (G : Nat → Nat → Int32 → Hp → Option (Int32 × Hp)) (a0 : Nat) : Nat → Int32 → Int32 → Hp → Option (Int32 × Hp)
  | 0, _, _, _ => none
  | k + 1, x1, x2, S => if (1600 : Int32) ≤ x2 then some ((1 : Int32), S) else ob2 (f_X10_isWord (23 : Int32) S) (fun r1 S1 => if r1 = 0 then some ((1 : Int32), S1) else ob (f_X10_next S1) (fun S2 => ob2 (G 1 a0 x1 S2) (fun r3 S3 => if r3 = 0 then some ((0 : Int32), S3) else ldP yH S3 a0 1 4 (fun p4 => ob (f_X4_add p4 (10107 : Int32) S3) (fun S5 => le1 (x2 + (1 : Int32)) (fun v6 => f_X7_test_12 G a0 k x1 v6 S5))))))
set_option maxHeartbeats 4000000 in
set_option maxRecDepth 100000 in
theorem w_X7_test_12 {p : Program} {l : Launch} {e : Env} {s : State} {m : MethodId} {args : Array Value} {below : List Frame} {meth : Method} {c : Code} {E : Ev} {S0 : Hp} {r : (Int32 × Hp)} (C : ho_I p s m args meth c RX7 cX7_test 3 (some .boolean)) {D : Nat} (hD : 8 ≤ D) (G : Nat → Nat → Int32 → Hp → Option (Int32 × Hp)) (hG : gH l E D G) (a0 : Nat) (ha0 : a0 ∈ yH.1 ∧ yH.2.1 a0 = (1, 7)) :
    ∀ (k : Nat) (x1 : Int32) (x2 : Int32) (S : Hp), f_X7_test_12 G a0 k x1 x2 S = some r → ho_G p l e s m args below meth c yH E S0 (D + 1) 3 (some (.int r.1), r.2) 12 [(0, .ref (E.2.1 a0)), (1, .int x1), (2, .int x2)] [] S := by
  intro k
  induction k with
  | zero =>
    intro x1 x2 S h
    exact absurd (show (none : Option (Int32 × Hp)) = some r from h) (by simp)
  | succ k ih =>
    intro x1 x2 S h H locs ls hR hl
    rw [f_X7_test_12] at h
    refine lv_iload_n C.1 C.2.1 dX7_test_12 rfl (lv_at hl 2 rfl) ?_
    refine lv_sipush (v := (1600 : Int32)) C.1 C.2.1 dX7_test_13 (by decide) ?_
    refine lv_icmp_ge (tgt := 64) C.1 C.2.1 dX7_test_16 (by decide) (fun hc => ?_) (fun hc => ?_)
    · replace h := if_t h hc
      refine lv_iconst (v := (1 : Int32)) C.1 C.2.1 dX7_test_64 (by decide) ?_
      exact ho_zret C hR (Or.inr rfl) h dX7_test_65
    · replace h := if_f h hc
      refine lv_aload_n C.1 C.2.1 dX7_test_19 rfl (lv_at hl 0 rfl) ?_
      refine ho_getR (a' := 10) C cf7 fH_RX7_15 hR ha0 (pH_7_0 ha0.2) dX7_test_20 ?_
      refine lv_bipush (v := (23 : Int32)) C.1 C.2.1 dX7_test_23 (by decide) ?_
      obtain ⟨r1, S1, h1, h⟩ := ob2_ok h
      refine hr_Vi (v := r1) (S' := S1) (As := [.int (23 : Int32)]) (rest := []) C cf10 (c_X10_isWord l E (23 : Int32) _ _ h1) yv_X10_isWord lk_RX7_44 rfl aH_10 rfl rfl hl.1 (Nat.le_of_ble_eq_true rfl) (by omega) (by decide) hR (ho_A hR) dX7_test_25 (fun H locs hR => ?_)
      refine lv_if_eq (tgt := 64) C.1 C.2.1 dX7_test_28 (by decide) (fun hc => ?_) (fun hc => ?_)
      · replace h := if_t h hc
        refine lv_iconst (v := (1 : Int32)) C.1 C.2.1 dX7_test_64 (by decide) ?_
        exact ho_zret C hR (Or.inr rfl) h dX7_test_65
      · replace h := if_f h hc
        refine lv_aload_n C.1 C.2.1 dX7_test_31 rfl (lv_at hl 0 rfl) ?_
        refine ho_getR (a' := 10) C cf7 fH_RX7_15 hR ha0 (pH_7_0 ha0.2) dX7_test_32 ?_
        obtain ⟨S2, h2, h⟩ := ob_ok h
        refine hr_Vv (S' := S2) (As := []) (rest := []) C cf10 (c_X10_next l E _ _ h2) yv_X10_next lk_RX7_47 rfl aH_10 rfl rfl hl.1 (Nat.le_of_ble_eq_true rfl) (by omega) (by decide) hR (ho_A hR) dX7_test_35 (fun H locs hR => ?_)
        refine lv_aload_n C.1 C.2.1 dX7_test_38 rfl (lv_at hl 0 rfl) ?_
        refine lv_iload_n C.1 C.2.1 dX7_test_39 rfl (lv_at hl 1 rfl) ?_
        obtain ⟨r3, S3, h3, h⟩ := ob2_ok h
        refine hr_Vi (v := r3) (S' := S3) (As := [.int x1]) (rest := []) C cf7 ((hG 1 a0 x1 S2 _ ha0 h3).2.1 rfl) yv_X7_facts lk_RX7_39 rfl ha0 rfl rfl hl.1 (Nat.le_of_ble_eq_true rfl) (by omega) (by decide) hR (ho_A hR) dX7_test_40 (fun H locs hR => ?_)
        refine lv_if_ne (tgt := 48) C.1 C.2.1 dX7_test_43 (by decide) (fun hc => ?_) (fun hc => ?_)
        · replace h := if_f h hc
          refine lv_aload_n C.1 C.2.1 dX7_test_48 rfl (lv_at hl 0 rfl) ?_
          obtain ⟨p4, e4, hp4, h⟩ := ldP_ok h
          refine hr_getP C cf7 fH_RX7_19 hR ha0 e4 dX7_test_49 ?_
          refine lv_sipush (v := (10107 : Int32)) C.1 C.2.1 dX7_test_52 (by decide) ?_
          obtain ⟨S5, h5, h⟩ := ob_ok h
          refine hr_Vv (S' := S5) (As := [.int (10107 : Int32)]) (rest := []) C cf4 (c_X4_add l E p4 (10107 : Int32) hp4 _ _ h5) yv_X4_add lk_RX7_50 rfl hp4 rfl rfl hl.1 (Nat.le_of_ble_eq_true rfl) (by omega) (by decide) hR (ho_A hR) dX7_test_55 (fun H locs hR => ?_)
          obtain ⟨v6, e6, h⟩ := le1_ok h
          refine lv_iinc (v := v6) (lv' := [(2, .int v6), (0, .ref (E.2.1 a0)), (1, .int x1)]) C.1 C.2.1 dX7_test_58 hl (k := 2) rfl (by rw [e6]; rfl) (by decide) rfl (fun ls hl => ?_)
          refine lv_goto (tgt := 12) C.1 C.2.1 dX7_test_61 (by decide) ?_
          exact ih x1 v6 S5 h _ _ _ hR (lv_sub hl [1, 2, 0] rfl)
        · replace h := if_t h hc
          refine lv_iconst (v := (0 : Int32)) C.1 C.2.1 dX7_test_46 (by decide) ?_
          exact ho_zret C hR (Or.inl rfl) h dX7_test_47
def f_X7_test (G : Nat → Nat → Int32 → Hp → Option (Int32 × Hp)) (a0 : Nat) (x1 : Int32) (S : Hp) : Option (Int32 × Hp) :=
  ob2 (G 1 a0 x1 S) (fun r1 S1 => if r1 = 0 then some ((0 : Int32), S1) else f_X7_test_12 G a0 5000 x1 (0 : Int32) S1)
set_option maxHeartbeats 4000000 in
set_option maxRecDepth 100000 in
theorem c_X7_test (l : Launch) (E : Ev) (D : Nat) (hD : 8 ≤ D) (G : Nat → Nat → Int32 → Hp → Option (Int32 × Hp)) (hG : gH l E D G) (a0 : Nat) (x1 : Int32) (ha0 : a0 ∈ yH.1 ∧ yH.2.1 a0 = (1, 7)) (S : Hp) (r : (Int32 × Hp)) (h : f_X7_test G a0 x1 S = some r) : ho_M l yH E yX7_test cX7_test 3 (some .boolean) (D + 1) [.ref (E.2.1 a0), .int x1] S (some (.int r.1), r.2) := by
  refine ho_in (by decide) (Nat.le_of_ble_eq_true rfl) ?_
  intro p e s m args below meth c C hR ls hl
  have C : ho_I p s m args meth c RX7 cX7_test 3 (some .boolean) := C
  have hl : lv_has ls 3 [(0, .ref (E.2.1 a0)), (1, .int x1)] := hl
  unfold f_X7_test at h
  refine lv_aload_n C.1 C.2.1 dX7_test_0 rfl (lv_at hl 0 rfl) ?_
  refine lv_iload_n C.1 C.2.1 dX7_test_1 rfl (lv_at hl 1 rfl) ?_
  obtain ⟨r1, S1, h1, h⟩ := ob2_ok h
  refine hr_Vi (v := r1) (S' := S1) (As := [.int x1]) (rest := []) C cf7 ((hG 1 a0 x1 S _ ha0 h1).2.1 rfl) yv_X7_facts lk_RX7_39 rfl ha0 rfl rfl hl.1 (Nat.le_of_ble_eq_true rfl) (by omega) (by decide) hR (ho_A hR) dX7_test_2 (fun H locs hR => ?_)
  refine lv_if_ne (tgt := 10) C.1 C.2.1 dX7_test_5 (by decide) (fun hc => ?_) (fun hc => ?_)
  · replace h := if_f h hc
    refine lv_iconst (v := (0 : Int32)) C.1 C.2.1 dX7_test_10 (by decide) ?_
    refine lv_istore_n (lv' := [(2, .int (0 : Int32)), (0, .ref (E.2.1 a0)), (1, .int x1)]) C.1 C.2.1 dX7_test_11 rfl hl (by decide) rfl (fun ls hl => ?_)
    exact w_X7_test_12 C hD G hG a0 ha0 5000 x1 (0 : Int32) S1 h _ _ _ hR (lv_sub hl [1, 2, 0] rfl)
  · replace h := if_t h hc
    refine lv_iconst (v := (0 : Int32)) C.1 C.2.1 dX7_test_8 (by decide) ?_
    exact ho_zret C hR (Or.inl rfl) h dX7_test_9
theorem dX7_facts_0 : decode cX7_facts 0 = .ok (.aload_n 0, 1) := by decide +kernel
theorem dX7_facts_1 : decode cX7_facts 1 = .ok (.iload_n 1, 1) := by decide +kernel
theorem dX7_facts_2 : decode cX7_facts 2 = .ok (.invokevirtual 54, 3) := by decide +kernel
theorem dX7_facts_5 : decode cX7_facts 5 = .ok (.ifCond .ne 5, 3) := by decide +kernel
theorem dX7_facts_8 : decode cX7_facts 8 = .ok (.iconst 0, 1) := by decide +kernel
theorem dX7_facts_9 : decode cX7_facts 9 = .ok (.ireturn, 1) := by decide +kernel
theorem dX7_facts_10 : decode cX7_facts 10 = .ok (.iconst 0, 1) := by decide +kernel
theorem dX7_facts_11 : decode cX7_facts 11 = .ok (.istore_n 2, 1) := by decide +kernel
theorem dX7_facts_12 : decode cX7_facts 12 = .ok (.iload_n 2, 1) := by decide +kernel
theorem dX7_facts_13 : decode cX7_facts 13 = .ok (.sipush 1600, 3) := by decide +kernel
theorem dX7_facts_16 : decode cX7_facts 16 = .ok (.if_icmp .ge 48, 3) := by decide +kernel
theorem dX7_facts_19 : decode cX7_facts 19 = .ok (.aload_n 0, 1) := by decide +kernel
theorem dX7_facts_20 : decode cX7_facts 20 = .ok (.getfield 15, 3) := by decide +kernel
theorem dX7_facts_23 : decode cX7_facts 23 = .ok (.bipush 24, 2) := by decide +kernel
theorem dX7_facts_25 : decode cX7_facts 25 = .ok (.invokevirtual 44, 3) := by decide +kernel
theorem dX7_facts_28 : decode cX7_facts 28 = .ok (.ifCond .eq 36, 3) := by decide +kernel
theorem dX7_facts_31 : decode cX7_facts 31 = .ok (.aload_n 0, 1) := by decide +kernel
theorem dX7_facts_32 : decode cX7_facts 32 = .ok (.getfield 15, 3) := by decide +kernel
theorem dX7_facts_35 : decode cX7_facts 35 = .ok (.invokevirtual 47, 3) := by decide +kernel
theorem dX7_facts_38 : decode cX7_facts 38 = .ok (.aload_n 0, 1) := by decide +kernel
theorem dX7_facts_39 : decode cX7_facts 39 = .ok (.iload_n 1, 1) := by decide +kernel
theorem dX7_facts_40 : decode cX7_facts 40 = .ok (.invokevirtual 54, 3) := by decide +kernel
theorem dX7_facts_43 : decode cX7_facts 43 = .ok (.ifCond .ne 5, 3) := by decide +kernel
theorem dX7_facts_46 : decode cX7_facts 46 = .ok (.iconst 0, 1) := by decide +kernel
theorem dX7_facts_47 : decode cX7_facts 47 = .ok (.ireturn, 1) := by decide +kernel
theorem dX7_facts_48 : decode cX7_facts 48 = .ok (.aload_n 0, 1) := by decide +kernel
theorem dX7_facts_49 : decode cX7_facts 49 = .ok (.getfield 19, 3) := by decide +kernel
theorem dX7_facts_52 : decode cX7_facts 52 = .ok (.sipush 10106, 3) := by decide +kernel
theorem dX7_facts_55 : decode cX7_facts 55 = .ok (.invokevirtual 50, 3) := by decide +kernel
theorem dX7_facts_58 : decode cX7_facts 58 = .ok (.iinc 2 1, 3) := by decide +kernel
theorem dX7_facts_61 : decode cX7_facts 61 = .ok (.goto (-49), 3) := by decide +kernel
theorem dX7_facts_64 : decode cX7_facts 64 = .ok (.iconst 1, 1) := by decide +kernel
theorem dX7_facts_65 : decode cX7_facts 65 = .ok (.ireturn, 1) := by decide +kernel
def f_X7_facts_12 (G : Nat → Nat → Int32 → Hp → Option (Int32 × Hp)) (a0 : Nat) : Nat → Int32 → Int32 → Hp → Option (Int32 × Hp)
  | 0, _, _, _ => none
  | k + 1, x1, x2, S => if (1600 : Int32) ≤ x2 then some ((1 : Int32), S) else ob2 (f_X10_isWord (24 : Int32) S) (fun r1 S1 => if r1 = 0 then some ((1 : Int32), S1) else ob (f_X10_next S1) (fun S2 => ob2 (G 2 a0 x1 S2) (fun r3 S3 => if r3 = 0 then some ((0 : Int32), S3) else ldP yH S3 a0 1 4 (fun p4 => ob (f_X4_add p4 (10106 : Int32) S3) (fun S5 => le1 (x2 + (1 : Int32)) (fun v6 => f_X7_facts_12 G a0 k x1 v6 S5))))))
set_option maxHeartbeats 4000000 in
set_option maxRecDepth 100000 in
theorem w_X7_facts_12 {p : Program} {l : Launch} {e : Env} {s : State} {m : MethodId} {args : Array Value} {below : List Frame} {meth : Method} {c : Code} {E : Ev} {S0 : Hp} {r : (Int32 × Hp)} (C : ho_I p s m args meth c RX7 cX7_facts 3 (some .boolean)) {D : Nat} (hD : 8 ≤ D) (G : Nat → Nat → Int32 → Hp → Option (Int32 × Hp)) (hG : gH l E D G) (a0 : Nat) (ha0 : a0 ∈ yH.1 ∧ yH.2.1 a0 = (1, 7)) :
    ∀ (k : Nat) (x1 : Int32) (x2 : Int32) (S : Hp), f_X7_facts_12 G a0 k x1 x2 S = some r → ho_G p l e s m args below meth c yH E S0 (D + 1) 3 (some (.int r.1), r.2) 12 [(0, .ref (E.2.1 a0)), (1, .int x1), (2, .int x2)] [] S := by
  intro k
  induction k with
  | zero =>
    intro x1 x2 S h
    exact absurd (show (none : Option (Int32 × Hp)) = some r from h) (by simp)
  | succ k ih =>
    intro x1 x2 S h H locs ls hR hl
    rw [f_X7_facts_12] at h
    refine lv_iload_n C.1 C.2.1 dX7_facts_12 rfl (lv_at hl 2 rfl) ?_
    refine lv_sipush (v := (1600 : Int32)) C.1 C.2.1 dX7_facts_13 (by decide) ?_
    refine lv_icmp_ge (tgt := 64) C.1 C.2.1 dX7_facts_16 (by decide) (fun hc => ?_) (fun hc => ?_)
    · replace h := if_t h hc
      refine lv_iconst (v := (1 : Int32)) C.1 C.2.1 dX7_facts_64 (by decide) ?_
      exact ho_zret C hR (Or.inr rfl) h dX7_facts_65
    · replace h := if_f h hc
      refine lv_aload_n C.1 C.2.1 dX7_facts_19 rfl (lv_at hl 0 rfl) ?_
      refine ho_getR (a' := 10) C cf7 fH_RX7_15 hR ha0 (pH_7_0 ha0.2) dX7_facts_20 ?_
      refine lv_bipush (v := (24 : Int32)) C.1 C.2.1 dX7_facts_23 (by decide) ?_
      obtain ⟨r1, S1, h1, h⟩ := ob2_ok h
      refine hr_Vi (v := r1) (S' := S1) (As := [.int (24 : Int32)]) (rest := []) C cf10 (c_X10_isWord l E (24 : Int32) _ _ h1) yv_X10_isWord lk_RX7_44 rfl aH_10 rfl rfl hl.1 (Nat.le_of_ble_eq_true rfl) (by omega) (by decide) hR (ho_A hR) dX7_facts_25 (fun H locs hR => ?_)
      refine lv_if_eq (tgt := 64) C.1 C.2.1 dX7_facts_28 (by decide) (fun hc => ?_) (fun hc => ?_)
      · replace h := if_t h hc
        refine lv_iconst (v := (1 : Int32)) C.1 C.2.1 dX7_facts_64 (by decide) ?_
        exact ho_zret C hR (Or.inr rfl) h dX7_facts_65
      · replace h := if_f h hc
        refine lv_aload_n C.1 C.2.1 dX7_facts_31 rfl (lv_at hl 0 rfl) ?_
        refine ho_getR (a' := 10) C cf7 fH_RX7_15 hR ha0 (pH_7_0 ha0.2) dX7_facts_32 ?_
        obtain ⟨S2, h2, h⟩ := ob_ok h
        refine hr_Vv (S' := S2) (As := []) (rest := []) C cf10 (c_X10_next l E _ _ h2) yv_X10_next lk_RX7_47 rfl aH_10 rfl rfl hl.1 (Nat.le_of_ble_eq_true rfl) (by omega) (by decide) hR (ho_A hR) dX7_facts_35 (fun H locs hR => ?_)
        refine lv_aload_n C.1 C.2.1 dX7_facts_38 rfl (lv_at hl 0 rfl) ?_
        refine lv_iload_n C.1 C.2.1 dX7_facts_39 rfl (lv_at hl 1 rfl) ?_
        obtain ⟨r3, S3, h3, h⟩ := ob2_ok h
        refine hr_Vi (v := r3) (S' := S3) (As := [.int x1]) (rest := []) C cf7 ((hG 2 a0 x1 S2 _ ha0 h3).2.2.1 rfl) yv_X7_fact lk_RX7_54 rfl ha0 rfl rfl hl.1 (Nat.le_of_ble_eq_true rfl) (by omega) (by decide) hR (ho_A hR) dX7_facts_40 (fun H locs hR => ?_)
        refine lv_if_ne (tgt := 48) C.1 C.2.1 dX7_facts_43 (by decide) (fun hc => ?_) (fun hc => ?_)
        · replace h := if_f h hc
          refine lv_aload_n C.1 C.2.1 dX7_facts_48 rfl (lv_at hl 0 rfl) ?_
          obtain ⟨p4, e4, hp4, h⟩ := ldP_ok h
          refine hr_getP C cf7 fH_RX7_19 hR ha0 e4 dX7_facts_49 ?_
          refine lv_sipush (v := (10106 : Int32)) C.1 C.2.1 dX7_facts_52 (by decide) ?_
          obtain ⟨S5, h5, h⟩ := ob_ok h
          refine hr_Vv (S' := S5) (As := [.int (10106 : Int32)]) (rest := []) C cf4 (c_X4_add l E p4 (10106 : Int32) hp4 _ _ h5) yv_X4_add lk_RX7_50 rfl hp4 rfl rfl hl.1 (Nat.le_of_ble_eq_true rfl) (by omega) (by decide) hR (ho_A hR) dX7_facts_55 (fun H locs hR => ?_)
          obtain ⟨v6, e6, h⟩ := le1_ok h
          refine lv_iinc (v := v6) (lv' := [(2, .int v6), (0, .ref (E.2.1 a0)), (1, .int x1)]) C.1 C.2.1 dX7_facts_58 hl (k := 2) rfl (by rw [e6]; rfl) (by decide) rfl (fun ls hl => ?_)
          refine lv_goto (tgt := 12) C.1 C.2.1 dX7_facts_61 (by decide) ?_
          exact ih x1 v6 S5 h _ _ _ hR (lv_sub hl [1, 2, 0] rfl)
        · replace h := if_t h hc
          refine lv_iconst (v := (0 : Int32)) C.1 C.2.1 dX7_facts_46 (by decide) ?_
          exact ho_zret C hR (Or.inl rfl) h dX7_facts_47
def f_X7_facts (G : Nat → Nat → Int32 → Hp → Option (Int32 × Hp)) (a0 : Nat) (x1 : Int32) (S : Hp) : Option (Int32 × Hp) :=
  ob2 (G 2 a0 x1 S) (fun r1 S1 => if r1 = 0 then some ((0 : Int32), S1) else f_X7_facts_12 G a0 5000 x1 (0 : Int32) S1)
set_option maxHeartbeats 4000000 in
set_option maxRecDepth 100000 in
theorem c_X7_facts (l : Launch) (E : Ev) (D : Nat) (hD : 8 ≤ D) (G : Nat → Nat → Int32 → Hp → Option (Int32 × Hp)) (hG : gH l E D G) (a0 : Nat) (x1 : Int32) (ha0 : a0 ∈ yH.1 ∧ yH.2.1 a0 = (1, 7)) (S : Hp) (r : (Int32 × Hp)) (h : f_X7_facts G a0 x1 S = some r) : ho_M l yH E yX7_facts cX7_facts 3 (some .boolean) (D + 1) [.ref (E.2.1 a0), .int x1] S (some (.int r.1), r.2) := by
  refine ho_in (by decide) (Nat.le_of_ble_eq_true rfl) ?_
  intro p e s m args below meth c C hR ls hl
  have C : ho_I p s m args meth c RX7 cX7_facts 3 (some .boolean) := C
  have hl : lv_has ls 3 [(0, .ref (E.2.1 a0)), (1, .int x1)] := hl
  unfold f_X7_facts at h
  refine lv_aload_n C.1 C.2.1 dX7_facts_0 rfl (lv_at hl 0 rfl) ?_
  refine lv_iload_n C.1 C.2.1 dX7_facts_1 rfl (lv_at hl 1 rfl) ?_
  obtain ⟨r1, S1, h1, h⟩ := ob2_ok h
  refine hr_Vi (v := r1) (S' := S1) (As := [.int x1]) (rest := []) C cf7 ((hG 2 a0 x1 S _ ha0 h1).2.2.1 rfl) yv_X7_fact lk_RX7_54 rfl ha0 rfl rfl hl.1 (Nat.le_of_ble_eq_true rfl) (by omega) (by decide) hR (ho_A hR) dX7_facts_2 (fun H locs hR => ?_)
  refine lv_if_ne (tgt := 10) C.1 C.2.1 dX7_facts_5 (by decide) (fun hc => ?_) (fun hc => ?_)
  · replace h := if_f h hc
    refine lv_iconst (v := (0 : Int32)) C.1 C.2.1 dX7_facts_10 (by decide) ?_
    refine lv_istore_n (lv' := [(2, .int (0 : Int32)), (0, .ref (E.2.1 a0)), (1, .int x1)]) C.1 C.2.1 dX7_facts_11 rfl hl (by decide) rfl (fun ls hl => ?_)
    exact w_X7_facts_12 C hD G hG a0 ha0 5000 x1 (0 : Int32) S1 h _ _ _ hR (lv_sub hl [1, 2, 0] rfl)
  · replace h := if_t h hc
    refine lv_iconst (v := (0 : Int32)) C.1 C.2.1 dX7_facts_8 (by decide) ?_
    exact ho_zret C hR (Or.inl rfl) h dX7_facts_9
theorem dX7_fact_0 : decode cX7_fact 0 = .ok (.aload_n 0, 1) := by decide +kernel
theorem dX7_fact_1 : decode cX7_fact 1 = .ok (.getfield 15, 3) := by decide +kernel
theorem dX7_fact_4 : decode cX7_fact 4 = .ok (.bipush 25, 2) := by decide +kernel
theorem dX7_fact_6 : decode cX7_fact 6 = .ok (.invokevirtual 44, 3) := by decide +kernel
theorem dX7_fact_9 : decode cX7_fact 9 = .ok (.ifCond .eq 35, 3) := by decide +kernel
theorem dX7_fact_12 : decode cX7_fact 12 = .ok (.aload_n 0, 1) := by decide +kernel
theorem dX7_fact_13 : decode cX7_fact 13 = .ok (.iload_n 1, 1) := by decide +kernel
theorem dX7_fact_14 : decode cX7_fact 14 = .ok (.invokevirtual 57, 3) := by decide +kernel
theorem dX7_fact_17 : decode cX7_fact 17 = .ok (.ifCond .eq 13, 3) := by decide +kernel
theorem dX7_fact_20 : decode cX7_fact 20 = .ok (.aload_n 0, 1) := by decide +kernel
theorem dX7_fact_21 : decode cX7_fact 21 = .ok (.iload_n 1, 1) := by decide +kernel
theorem dX7_fact_22 : decode cX7_fact 22 = .ok (.iconst 1, 1) := by decide +kernel
theorem dX7_fact_23 : decode cX7_fact 23 = .ok (.iadd, 1) := by decide +kernel
theorem dX7_fact_24 : decode cX7_fact 24 = .ok (.invokevirtual 54, 3) := by decide +kernel
theorem dX7_fact_27 : decode cX7_fact 27 = .ok (.ifCond .ne 5, 3) := by decide +kernel
theorem dX7_fact_30 : decode cX7_fact 30 = .ok (.iconst 0, 1) := by decide +kernel
theorem dX7_fact_31 : decode cX7_fact 31 = .ok (.ireturn, 1) := by decide +kernel
theorem dX7_fact_32 : decode cX7_fact 32 = .ok (.aload_n 0, 1) := by decide +kernel
theorem dX7_fact_33 : decode cX7_fact 33 = .ok (.getfield 19, 3) := by decide +kernel
theorem dX7_fact_36 : decode cX7_fact 36 = .ok (.sipush 10111, 3) := by decide +kernel
theorem dX7_fact_39 : decode cX7_fact 39 = .ok (.invokevirtual 50, 3) := by decide +kernel
theorem dX7_fact_42 : decode cX7_fact 42 = .ok (.iconst 1, 1) := by decide +kernel
theorem dX7_fact_43 : decode cX7_fact 43 = .ok (.ireturn, 1) := by decide +kernel
theorem dX7_fact_44 : decode cX7_fact 44 = .ok (.aload_n 0, 1) := by decide +kernel
theorem dX7_fact_45 : decode cX7_fact 45 = .ok (.getfield 15, 3) := by decide +kernel
theorem dX7_fact_48 : decode cX7_fact 48 = .ok (.bipush 91, 2) := by decide +kernel
theorem dX7_fact_50 : decode cX7_fact 50 = .ok (.invokevirtual 60, 3) := by decide +kernel
theorem dX7_fact_53 : decode cX7_fact 53 = .ok (.ifCond .eq 39, 3) := by decide +kernel
theorem dX7_fact_56 : decode cX7_fact 56 = .ok (.aload_n 0, 1) := by decide +kernel
theorem dX7_fact_57 : decode cX7_fact 57 = .ok (.iload_n 1, 1) := by decide +kernel
theorem dX7_fact_58 : decode cX7_fact 58 = .ok (.invokevirtual 57, 3) := by decide +kernel
theorem dX7_fact_61 : decode cX7_fact 61 = .ok (.ifCond .eq 29, 3) := by decide +kernel
theorem dX7_fact_64 : decode cX7_fact 64 = .ok (.aload_n 0, 1) := by decide +kernel
theorem dX7_fact_65 : decode cX7_fact 65 = .ok (.iload_n 1, 1) := by decide +kernel
theorem dX7_fact_66 : decode cX7_fact 66 = .ok (.iconst 1, 1) := by decide +kernel
theorem dX7_fact_67 : decode cX7_fact 67 = .ok (.iadd, 1) := by decide +kernel
theorem dX7_fact_68 : decode cX7_fact 68 = .ok (.invokevirtual 31, 3) := by decide +kernel
theorem dX7_fact_71 : decode cX7_fact 71 = .ok (.ifCond .eq 19, 3) := by decide +kernel
theorem dX7_fact_74 : decode cX7_fact 74 = .ok (.aload_n 0, 1) := by decide +kernel
theorem dX7_fact_75 : decode cX7_fact 75 = .ok (.getfield 15, 3) := by decide +kernel
theorem dX7_fact_78 : decode cX7_fact 78 = .ok (.bipush 93, 2) := by decide +kernel
theorem dX7_fact_80 : decode cX7_fact 80 = .ok (.invokevirtual 64, 3) := by decide +kernel
theorem dX7_fact_83 : decode cX7_fact 83 = .ok (.ifCond .eq 7, 3) := by decide +kernel
theorem dX7_fact_86 : decode cX7_fact 86 = .ok (.iconst 1, 1) := by decide +kernel
theorem dX7_fact_87 : decode cX7_fact 87 = .ok (.goto 4, 3) := by decide +kernel
theorem dX7_fact_90 : decode cX7_fact 90 = .ok (.iconst 0, 1) := by decide +kernel
theorem dX7_fact_91 : decode cX7_fact 91 = .ok (.ireturn, 1) := by decide +kernel
theorem dX7_fact_92 : decode cX7_fact 92 = .ok (.aload_n 0, 1) := by decide +kernel
theorem dX7_fact_93 : decode cX7_fact 93 = .ok (.getfield 15, 3) := by decide +kernel
theorem dX7_fact_96 : decode cX7_fact 96 = .ok (.bipush 26, 2) := by decide +kernel
theorem dX7_fact_98 : decode cX7_fact 98 = .ok (.invokevirtual 44, 3) := by decide +kernel
theorem dX7_fact_101 : decode cX7_fact 101 = .ok (.ifCond .eq 20, 3) := by decide +kernel
theorem dX7_fact_104 : decode cX7_fact 104 = .ok (.aload_n 0, 1) := by decide +kernel
theorem dX7_fact_105 : decode cX7_fact 105 = .ok (.getfield 15, 3) := by decide +kernel
theorem dX7_fact_108 : decode cX7_fact 108 = .ok (.invokevirtual 47, 3) := by decide +kernel
theorem dX7_fact_111 : decode cX7_fact 111 = .ok (.aload_n 0, 1) := by decide +kernel
theorem dX7_fact_112 : decode cX7_fact 112 = .ok (.getfield 19, 3) := by decide +kernel
theorem dX7_fact_115 : decode cX7_fact 115 = .ok (.iconst 1, 1) := by decide +kernel
theorem dX7_fact_116 : decode cX7_fact 116 = .ok (.invokevirtual 50, 3) := by decide +kernel
theorem dX7_fact_119 : decode cX7_fact 119 = .ok (.iconst 1, 1) := by decide +kernel
theorem dX7_fact_120 : decode cX7_fact 120 = .ok (.ireturn, 1) := by decide +kernel
theorem dX7_fact_121 : decode cX7_fact 121 = .ok (.aload_n 0, 1) := by decide +kernel
theorem dX7_fact_122 : decode cX7_fact 122 = .ok (.iload_n 1, 1) := by decide +kernel
theorem dX7_fact_123 : decode cX7_fact 123 = .ok (.invokevirtual 67, 3) := by decide +kernel
theorem dX7_fact_126 : decode cX7_fact 126 = .ok (.ireturn, 1) := by decide +kernel
def f_X7_fact (G : Nat → Nat → Int32 → Hp → Option (Int32 × Hp)) (a0 : Nat) (x1 : Int32) (S : Hp) : Option (Int32 × Hp) :=
  ob2 (f_X10_isWord (25 : Int32) S) (fun r1 S1 => if r1 = 0 then ob2 (f_X10_isSign (91 : Int32) S1) (fun r2 S2 => if r2 = 0 then ob2 (f_X10_isWord (26 : Int32) S2) (fun r3 S3 => if r3 = 0 then ob2 (G 3 a0 x1 S3) (fun r4 S4 => tr r4 (some (r4, S4))) else ob (f_X10_next S3) (fun S5 => ldP yH S5 a0 1 4 (fun p6 => ob (f_X4_add p6 (1 : Int32) S5) (fun S7 => some ((1 : Int32), S7))))) else ob2 (f_X7_opens a0 x1 S2) (fun r8 S8 => if r8 = 0 then some ((0 : Int32), S8) else ob2 (G 0 a0 (x1 + (1 : Int32)) S8) (fun r9 S9 => if r9 = 0 then some ((0 : Int32), S9) else ob2 (f_X10_takeSign (93 : Int32) S9) (fun r10 S10 => if r10 = 0 then some ((0 : Int32), S10) else some ((1 : Int32), S10))))) else ob2 (f_X7_opens a0 x1 S1) (fun r11 S11 => if r11 = 0 then some ((0 : Int32), S11) else ob2 (G 2 a0 (x1 + (1 : Int32)) S11) (fun r12 S12 => if r12 = 0 then some ((0 : Int32), S12) else ldP yH S12 a0 1 4 (fun p13 => ob (f_X4_add p13 (10111 : Int32) S12) (fun S14 => some ((1 : Int32), S14))))))
set_option maxHeartbeats 4000000 in
set_option maxRecDepth 100000 in
theorem c_X7_fact (l : Launch) (E : Ev) (D : Nat) (hD : 8 ≤ D) (G : Nat → Nat → Int32 → Hp → Option (Int32 × Hp)) (hG : gH l E D G) (a0 : Nat) (x1 : Int32) (ha0 : a0 ∈ yH.1 ∧ yH.2.1 a0 = (1, 7)) (S : Hp) (r : (Int32 × Hp)) (h : f_X7_fact G a0 x1 S = some r) : ho_M l yH E yX7_fact cX7_fact 2 (some .boolean) (D + 1) [.ref (E.2.1 a0), .int x1] S (some (.int r.1), r.2) := by
  refine ho_in (by decide) (Nat.le_of_ble_eq_true rfl) ?_
  intro p e s m args below meth c C hR ls hl
  have C : ho_I p s m args meth c RX7 cX7_fact 2 (some .boolean) := C
  have hl : lv_has ls 2 [(0, .ref (E.2.1 a0)), (1, .int x1)] := hl
  unfold f_X7_fact at h
  refine lv_aload_n C.1 C.2.1 dX7_fact_0 rfl (lv_at hl 0 rfl) ?_
  refine ho_getR (a' := 10) C cf7 fH_RX7_15 hR ha0 (pH_7_0 ha0.2) dX7_fact_1 ?_
  refine lv_bipush (v := (25 : Int32)) C.1 C.2.1 dX7_fact_4 (by decide) ?_
  obtain ⟨r1, S1, h1, h⟩ := ob2_ok h
  refine hr_Vi (v := r1) (S' := S1) (As := [.int (25 : Int32)]) (rest := []) C cf10 (c_X10_isWord l E (25 : Int32) _ _ h1) yv_X10_isWord lk_RX7_44 rfl aH_10 rfl rfl hl.1 (Nat.le_of_ble_eq_true rfl) (by omega) (by decide) hR (ho_A hR) dX7_fact_6 (fun H locs hR => ?_)
  refine lv_if_eq (tgt := 44) C.1 C.2.1 dX7_fact_9 (by decide) (fun hc => ?_) (fun hc => ?_)
  · replace h := if_t h hc
    refine lv_aload_n C.1 C.2.1 dX7_fact_44 rfl (lv_at hl 0 rfl) ?_
    refine ho_getR (a' := 10) C cf7 fH_RX7_15 hR ha0 (pH_7_0 ha0.2) dX7_fact_45 ?_
    refine lv_bipush (v := (91 : Int32)) C.1 C.2.1 dX7_fact_48 (by decide) ?_
    obtain ⟨r2, S2, h2, h⟩ := ob2_ok h
    refine hr_Vi (v := r2) (S' := S2) (As := [.int (91 : Int32)]) (rest := []) C cf10 (c_X10_isSign l E (91 : Int32) _ _ h2) yv_X10_isSign lk_RX7_60 rfl aH_10 rfl rfl hl.1 (Nat.le_of_ble_eq_true rfl) (by omega) (by decide) hR (ho_A hR) dX7_fact_50 (fun H locs hR => ?_)
    refine lv_if_eq (tgt := 92) C.1 C.2.1 dX7_fact_53 (by decide) (fun hc => ?_) (fun hc => ?_)
    · replace h := if_t h hc
      refine lv_aload_n C.1 C.2.1 dX7_fact_92 rfl (lv_at hl 0 rfl) ?_
      refine ho_getR (a' := 10) C cf7 fH_RX7_15 hR ha0 (pH_7_0 ha0.2) dX7_fact_93 ?_
      refine lv_bipush (v := (26 : Int32)) C.1 C.2.1 dX7_fact_96 (by decide) ?_
      obtain ⟨r3, S3, h3, h⟩ := ob2_ok h
      refine hr_Vi (v := r3) (S' := S3) (As := [.int (26 : Int32)]) (rest := []) C cf10 (c_X10_isWord l E (26 : Int32) _ _ h3) yv_X10_isWord lk_RX7_44 rfl aH_10 rfl rfl hl.1 (Nat.le_of_ble_eq_true rfl) (by omega) (by decide) hR (ho_A hR) dX7_fact_98 (fun H locs hR => ?_)
      refine lv_if_eq (tgt := 121) C.1 C.2.1 dX7_fact_101 (by decide) (fun hc => ?_) (fun hc => ?_)
      · replace h := if_t h hc
        refine lv_aload_n C.1 C.2.1 dX7_fact_121 rfl (lv_at hl 0 rfl) ?_
        refine lv_iload_n C.1 C.2.1 dX7_fact_122 rfl (lv_at hl 1 rfl) ?_
        obtain ⟨r4, S4, h4, h⟩ := ob2_ok h
        refine hr_Vi (v := r4) (S' := S4) (As := [.int x1]) (rest := []) C cf7 ((hG 3 a0 x1 S3 _ ha0 h4).2.2.2.1 rfl) yv_X7_compared lk_RX7_67 rfl ha0 rfl rfl hl.1 (Nat.le_of_ble_eq_true rfl) (by omega) (by decide) hR (ho_A hR) dX7_fact_123 (fun H locs hR => ?_)
        obtain ⟨hz, h⟩ := tr_ok h
        exact ho_zret C hR hz h dX7_fact_126
      · replace h := if_f h hc
        refine lv_aload_n C.1 C.2.1 dX7_fact_104 rfl (lv_at hl 0 rfl) ?_
        refine ho_getR (a' := 10) C cf7 fH_RX7_15 hR ha0 (pH_7_0 ha0.2) dX7_fact_105 ?_
        obtain ⟨S5, h5, h⟩ := ob_ok h
        refine hr_Vv (S' := S5) (As := []) (rest := []) C cf10 (c_X10_next l E _ _ h5) yv_X10_next lk_RX7_47 rfl aH_10 rfl rfl hl.1 (Nat.le_of_ble_eq_true rfl) (by omega) (by decide) hR (ho_A hR) dX7_fact_108 (fun H locs hR => ?_)
        refine lv_aload_n C.1 C.2.1 dX7_fact_111 rfl (lv_at hl 0 rfl) ?_
        obtain ⟨p6, e6, hp6, h⟩ := ldP_ok h
        refine hr_getP C cf7 fH_RX7_19 hR ha0 e6 dX7_fact_112 ?_
        refine lv_iconst (v := (1 : Int32)) C.1 C.2.1 dX7_fact_115 (by decide) ?_
        obtain ⟨S7, h7, h⟩ := ob_ok h
        refine hr_Vv (S' := S7) (As := [.int (1 : Int32)]) (rest := []) C cf4 (c_X4_add l E p6 (1 : Int32) hp6 _ _ h7) yv_X4_add lk_RX7_50 rfl hp6 rfl rfl hl.1 (Nat.le_of_ble_eq_true rfl) (by omega) (by decide) hR (ho_A hR) dX7_fact_116 (fun H locs hR => ?_)
        refine lv_iconst (v := (1 : Int32)) C.1 C.2.1 dX7_fact_119 (by decide) ?_
        exact ho_zret C hR (Or.inr rfl) h dX7_fact_120
    · replace h := if_f h hc
      refine lv_aload_n C.1 C.2.1 dX7_fact_56 rfl (lv_at hl 0 rfl) ?_
      refine lv_iload_n C.1 C.2.1 dX7_fact_57 rfl (lv_at hl 1 rfl) ?_
      obtain ⟨r8, S8, h8, h⟩ := ob2_ok h
      refine hr_Vi (v := r8) (S' := S8) (As := [.int x1]) (rest := []) C cf7 (c_X7_opens l E a0 x1 ha0 _ _ h8) yv_X7_opens lk_RX7_57 rfl ha0 rfl rfl hl.1 (Nat.le_of_ble_eq_true rfl) (by omega) (by decide) hR (ho_A hR) dX7_fact_58 (fun H locs hR => ?_)
      refine lv_if_eq (tgt := 90) C.1 C.2.1 dX7_fact_61 (by decide) (fun hc => ?_) (fun hc => ?_)
      · replace h := if_t h hc
        refine lv_iconst (v := (0 : Int32)) C.1 C.2.1 dX7_fact_90 (by decide) ?_
        exact ho_zret C hR (Or.inl rfl) h dX7_fact_91
      · replace h := if_f h hc
        refine lv_aload_n C.1 C.2.1 dX7_fact_64 rfl (lv_at hl 0 rfl) ?_
        refine lv_iload_n C.1 C.2.1 dX7_fact_65 rfl (lv_at hl 1 rfl) ?_
        refine lv_iconst (v := (1 : Int32)) C.1 C.2.1 dX7_fact_66 (by decide) ?_
        refine lv_iadd C.1 C.2.1 dX7_fact_67 ?_
        obtain ⟨r9, S9, h9, h⟩ := ob2_ok h
        refine hr_Vi (v := r9) (S' := S9) (As := [.int (x1 + (1 : Int32))]) (rest := []) C cf7 ((hG 0 a0 (x1 + (1 : Int32)) S8 _ ha0 h9).1 rfl) yv_X7_test lk_RX7_31 rfl ha0 rfl rfl hl.1 (Nat.le_of_ble_eq_true rfl) (by omega) (by decide) hR (ho_A hR) dX7_fact_68 (fun H locs hR => ?_)
        refine lv_if_eq (tgt := 90) C.1 C.2.1 dX7_fact_71 (by decide) (fun hc => ?_) (fun hc => ?_)
        · replace h := if_t h hc
          refine lv_iconst (v := (0 : Int32)) C.1 C.2.1 dX7_fact_90 (by decide) ?_
          exact ho_zret C hR (Or.inl rfl) h dX7_fact_91
        · replace h := if_f h hc
          refine lv_aload_n C.1 C.2.1 dX7_fact_74 rfl (lv_at hl 0 rfl) ?_
          refine ho_getR (a' := 10) C cf7 fH_RX7_15 hR ha0 (pH_7_0 ha0.2) dX7_fact_75 ?_
          refine lv_bipush (v := (93 : Int32)) C.1 C.2.1 dX7_fact_78 (by decide) ?_
          obtain ⟨r10, S10, h10, h⟩ := ob2_ok h
          refine hr_Vi (v := r10) (S' := S10) (As := [.int (93 : Int32)]) (rest := []) C cf10 (c_X10_takeSign l E (93 : Int32) _ _ h10) yv_X10_takeSign lk_RX7_64 rfl aH_10 rfl rfl hl.1 (Nat.le_of_ble_eq_true rfl) (by omega) (by decide) hR (ho_A hR) dX7_fact_80 (fun H locs hR => ?_)
          refine lv_if_eq (tgt := 90) C.1 C.2.1 dX7_fact_83 (by decide) (fun hc => ?_) (fun hc => ?_)
          · replace h := if_t h hc
            refine lv_iconst (v := (0 : Int32)) C.1 C.2.1 dX7_fact_90 (by decide) ?_
            exact ho_zret C hR (Or.inl rfl) h dX7_fact_91
          · replace h := if_f h hc
            refine lv_iconst (v := (1 : Int32)) C.1 C.2.1 dX7_fact_86 (by decide) ?_
            refine lv_goto (tgt := 91) C.1 C.2.1 dX7_fact_87 (by decide) ?_
            exact ho_zret C hR (Or.inr rfl) h dX7_fact_91
  · replace h := if_f h hc
    refine lv_aload_n C.1 C.2.1 dX7_fact_12 rfl (lv_at hl 0 rfl) ?_
    refine lv_iload_n C.1 C.2.1 dX7_fact_13 rfl (lv_at hl 1 rfl) ?_
    obtain ⟨r11, S11, h11, h⟩ := ob2_ok h
    refine hr_Vi (v := r11) (S' := S11) (As := [.int x1]) (rest := []) C cf7 (c_X7_opens l E a0 x1 ha0 _ _ h11) yv_X7_opens lk_RX7_57 rfl ha0 rfl rfl hl.1 (Nat.le_of_ble_eq_true rfl) (by omega) (by decide) hR (ho_A hR) dX7_fact_14 (fun H locs hR => ?_)
    refine lv_if_eq (tgt := 30) C.1 C.2.1 dX7_fact_17 (by decide) (fun hc => ?_) (fun hc => ?_)
    · replace h := if_t h hc
      refine lv_iconst (v := (0 : Int32)) C.1 C.2.1 dX7_fact_30 (by decide) ?_
      exact ho_zret C hR (Or.inl rfl) h dX7_fact_31
    · replace h := if_f h hc
      refine lv_aload_n C.1 C.2.1 dX7_fact_20 rfl (lv_at hl 0 rfl) ?_
      refine lv_iload_n C.1 C.2.1 dX7_fact_21 rfl (lv_at hl 1 rfl) ?_
      refine lv_iconst (v := (1 : Int32)) C.1 C.2.1 dX7_fact_22 (by decide) ?_
      refine lv_iadd C.1 C.2.1 dX7_fact_23 ?_
      obtain ⟨r12, S12, h12, h⟩ := ob2_ok h
      refine hr_Vi (v := r12) (S' := S12) (As := [.int (x1 + (1 : Int32))]) (rest := []) C cf7 ((hG 2 a0 (x1 + (1 : Int32)) S11 _ ha0 h12).2.2.1 rfl) yv_X7_fact lk_RX7_54 rfl ha0 rfl rfl hl.1 (Nat.le_of_ble_eq_true rfl) (by omega) (by decide) hR (ho_A hR) dX7_fact_24 (fun H locs hR => ?_)
      refine lv_if_ne (tgt := 32) C.1 C.2.1 dX7_fact_27 (by decide) (fun hc => ?_) (fun hc => ?_)
      · replace h := if_f h hc
        refine lv_aload_n C.1 C.2.1 dX7_fact_32 rfl (lv_at hl 0 rfl) ?_
        obtain ⟨p13, e13, hp13, h⟩ := ldP_ok h
        refine hr_getP C cf7 fH_RX7_19 hR ha0 e13 dX7_fact_33 ?_
        refine lv_sipush (v := (10111 : Int32)) C.1 C.2.1 dX7_fact_36 (by decide) ?_
        obtain ⟨S14, h14, h⟩ := ob_ok h
        refine hr_Vv (S' := S14) (As := [.int (10111 : Int32)]) (rest := []) C cf4 (c_X4_add l E p13 (10111 : Int32) hp13 _ _ h14) yv_X4_add lk_RX7_50 rfl hp13 rfl rfl hl.1 (Nat.le_of_ble_eq_true rfl) (by omega) (by decide) hR (ho_A hR) dX7_fact_39 (fun H locs hR => ?_)
        refine lv_iconst (v := (1 : Int32)) C.1 C.2.1 dX7_fact_42 (by decide) ?_
        exact ho_zret C hR (Or.inr rfl) h dX7_fact_43
      · replace h := if_t h hc
        refine lv_iconst (v := (0 : Int32)) C.1 C.2.1 dX7_fact_30 (by decide) ?_
        exact ho_zret C hR (Or.inl rfl) h dX7_fact_31
theorem dX7_compared_0 : decode cX7_compared 0 = .ok (.aload_n 0, 1) := by decide +kernel
theorem dX7_compared_1 : decode cX7_compared 1 = .ok (.iload_n 1, 1) := by decide +kernel
theorem dX7_compared_2 : decode cX7_compared 2 = .ok (.invokevirtual 27, 3) := by decide +kernel
theorem dX7_compared_5 : decode cX7_compared 5 = .ok (.ifCond .ne 5, 3) := by decide +kernel
theorem dX7_compared_8 : decode cX7_compared 8 = .ok (.iconst 0, 1) := by decide +kernel
theorem dX7_compared_9 : decode cX7_compared 9 = .ok (.ireturn, 1) := by decide +kernel
theorem dX7_compared_10 : decode cX7_compared 10 = .ok (.aload_n 0, 1) := by decide +kernel
theorem dX7_compared_11 : decode cX7_compared 11 = .ok (.getfield 15, 3) := by decide +kernel
theorem dX7_compared_14 : decode cX7_compared 14 = .ok (.bipush 60, 2) := by decide +kernel
theorem dX7_compared_16 : decode cX7_compared 16 = .ok (.invokevirtual 60, 3) := by decide +kernel
theorem dX7_compared_19 : decode cX7_compared 19 = .ok (.ifCond .eq 9, 3) := by decide +kernel
theorem dX7_compared_22 : decode cX7_compared 22 = .ok (.sipush 10108, 3) := by decide +kernel
theorem dX7_compared_25 : decode cX7_compared 25 = .ok (.goto 40, 3) := by decide +kernel
theorem dX7_compared_28 : decode cX7_compared 28 = .ok (.aload_n 0, 1) := by decide +kernel
theorem dX7_compared_29 : decode cX7_compared 29 = .ok (.getfield 15, 3) := by decide +kernel
theorem dX7_compared_32 : decode cX7_compared 32 = .ok (.bipush 62, 2) := by decide +kernel
theorem dX7_compared_34 : decode cX7_compared 34 = .ok (.invokevirtual 60, 3) := by decide +kernel
theorem dX7_compared_37 : decode cX7_compared 37 = .ok (.ifCond .eq 9, 3) := by decide +kernel
theorem dX7_compared_40 : decode cX7_compared 40 = .ok (.sipush 10109, 3) := by decide +kernel
theorem dX7_compared_43 : decode cX7_compared 43 = .ok (.goto 22, 3) := by decide +kernel
theorem dX7_compared_46 : decode cX7_compared 46 = .ok (.aload_n 0, 1) := by decide +kernel
theorem dX7_compared_47 : decode cX7_compared 47 = .ok (.getfield 15, 3) := by decide +kernel
theorem dX7_compared_50 : decode cX7_compared 50 = .ok (.bipush 61, 2) := by decide +kernel
theorem dX7_compared_52 : decode cX7_compared 52 = .ok (.invokevirtual 60, 3) := by decide +kernel
theorem dX7_compared_55 : decode cX7_compared 55 = .ok (.ifCond .eq 9, 3) := by decide +kernel
theorem dX7_compared_58 : decode cX7_compared 58 = .ok (.sipush 10110, 3) := by decide +kernel
theorem dX7_compared_61 : decode cX7_compared 61 = .ok (.goto 4, 3) := by decide +kernel
theorem dX7_compared_64 : decode cX7_compared 64 = .ok (.iconst (-1), 1) := by decide +kernel
theorem dX7_compared_65 : decode cX7_compared 65 = .ok (.istore_n 2, 1) := by decide +kernel
theorem dX7_compared_66 : decode cX7_compared 66 = .ok (.iload_n 2, 1) := by decide +kernel
theorem dX7_compared_67 : decode cX7_compared 67 = .ok (.iconst (-1), 1) := by decide +kernel
theorem dX7_compared_68 : decode cX7_compared 68 = .ok (.if_icmp .ne 19, 3) := by decide +kernel
theorem dX7_compared_71 : decode cX7_compared 71 = .ok (.aload_n 0, 1) := by decide +kernel
theorem dX7_compared_72 : decode cX7_compared 72 = .ok (.getfield 15, 3) := by decide +kernel
theorem dX7_compared_75 : decode cX7_compared 75 = .ok (.iconst 1, 1) := by decide +kernel
theorem dX7_compared_76 : decode cX7_compared 76 = .ok (.aload_n 0, 1) := by decide +kernel
theorem dX7_compared_77 : decode cX7_compared 77 = .ok (.getfield 15, 3) := by decide +kernel
theorem dX7_compared_80 : decode cX7_compared 80 = .ok (.getfield 70, 3) := by decide +kernel
theorem dX7_compared_83 : decode cX7_compared 83 = .ok (.invokevirtual 73, 3) := by decide +kernel
theorem dX7_compared_86 : decode cX7_compared 86 = .ok (.ireturn, 1) := by decide +kernel
theorem dX7_compared_87 : decode cX7_compared 87 = .ok (.aload_n 0, 1) := by decide +kernel
theorem dX7_compared_88 : decode cX7_compared 88 = .ok (.getfield 15, 3) := by decide +kernel
theorem dX7_compared_91 : decode cX7_compared 91 = .ok (.invokevirtual 47, 3) := by decide +kernel
theorem dX7_compared_94 : decode cX7_compared 94 = .ok (.aload_n 0, 1) := by decide +kernel
theorem dX7_compared_95 : decode cX7_compared 95 = .ok (.iload_n 1, 1) := by decide +kernel
theorem dX7_compared_96 : decode cX7_compared 96 = .ok (.invokevirtual 27, 3) := by decide +kernel
theorem dX7_compared_99 : decode cX7_compared 99 = .ok (.ifCond .ne 5, 3) := by decide +kernel
theorem dX7_compared_102 : decode cX7_compared 102 = .ok (.iconst 0, 1) := by decide +kernel
theorem dX7_compared_103 : decode cX7_compared 103 = .ok (.ireturn, 1) := by decide +kernel
theorem dX7_compared_104 : decode cX7_compared 104 = .ok (.aload_n 0, 1) := by decide +kernel
theorem dX7_compared_105 : decode cX7_compared 105 = .ok (.getfield 19, 3) := by decide +kernel
theorem dX7_compared_108 : decode cX7_compared 108 = .ok (.iload_n 2, 1) := by decide +kernel
theorem dX7_compared_109 : decode cX7_compared 109 = .ok (.invokevirtual 50, 3) := by decide +kernel
theorem dX7_compared_112 : decode cX7_compared 112 = .ok (.iconst 1, 1) := by decide +kernel
theorem dX7_compared_113 : decode cX7_compared 113 = .ok (.ireturn, 1) := by decide +kernel
def f_X7_compared_65 (G : Nat → Nat → Int32 → Hp → Option (Int32 × Hp)) (a0 : Nat) (x1 : Int32) (z0 : Int32) (S : Hp) : Option (Int32 × Hp) :=
  if z0 = (-1 : Int32) then ob2 (f_X10_wrong (1 : Int32) (S.1 10 5) S) (fun r5 S5 => tr r5 (some (r5, S5))) else ob (f_X10_next S) (fun S1 => ob2 (G 4 a0 x1 S1) (fun r2 S2 => if r2 = 0 then some ((0 : Int32), S2) else ldP yH S2 a0 1 4 (fun p3 => ob (f_X4_add p3 z0 S2) (fun S4 => some ((1 : Int32), S4)))))
set_option maxHeartbeats 4000000 in
set_option maxRecDepth 100000 in
theorem w_X7_compared_65 {p : Program} {l : Launch} {e : Env} {s : State} {m : MethodId} {args : Array Value} {below : List Frame} {meth : Method} {c : Code} {E : Ev} {S0 : Hp} {r : (Int32 × Hp)} (C : ho_I p s m args meth c RX7 cX7_compared 3 (some .boolean)) {D : Nat} (hD : 8 ≤ D) (G : Nat → Nat → Int32 → Hp → Option (Int32 × Hp)) (hG : gH l E D G) (a0 : Nat) (ha0 : a0 ∈ yH.1 ∧ yH.2.1 a0 = (1, 7)) :
    ∀ (x1 : Int32) (z0 : Int32) (S : Hp), f_X7_compared_65 G a0 x1 z0 S = some r → ho_G p l e s m args below meth c yH E S0 (D + 1) 3 (some (.int r.1), r.2) 65 [(0, .ref (E.2.1 a0)), (1, .int x1)] [.int z0] S := by
  intro x1 z0 S h H locs ls hR hl
  unfold f_X7_compared_65 at h
  refine lv_istore_n (lv' := [(2, .int z0), (0, .ref (E.2.1 a0)), (1, .int x1)]) C.1 C.2.1 dX7_compared_65 rfl hl (by decide) rfl (fun ls hl => ?_)
  refine lv_iload_n C.1 C.2.1 dX7_compared_66 rfl (lv_at hl 0 rfl) ?_
  refine lv_iconst (v := (-1 : Int32)) C.1 C.2.1 dX7_compared_67 (by decide) ?_
  refine lv_icmp_ne (tgt := 87) C.1 C.2.1 dX7_compared_68 (by decide) (fun hc => ?_) (fun hc => ?_)
  · replace h := if_f h hc
    refine lv_aload_n C.1 C.2.1 dX7_compared_87 rfl (lv_at hl 1 rfl) ?_
    refine ho_getR (a' := 10) C cf7 fH_RX7_15 hR ha0 (pH_7_0 ha0.2) dX7_compared_88 ?_
    obtain ⟨S1, h1, h⟩ := ob_ok h
    refine hr_Vv (S' := S1) (As := []) (rest := []) C cf10 (c_X10_next l E _ _ h1) yv_X10_next lk_RX7_47 rfl aH_10 rfl rfl hl.1 (Nat.le_of_ble_eq_true rfl) (by omega) (by decide) hR (ho_A hR) dX7_compared_91 (fun H locs hR => ?_)
    refine lv_aload_n C.1 C.2.1 dX7_compared_94 rfl (lv_at hl 1 rfl) ?_
    refine lv_iload_n C.1 C.2.1 dX7_compared_95 rfl (lv_at hl 2 rfl) ?_
    obtain ⟨r2, S2, h2, h⟩ := ob2_ok h
    refine hr_Vi (v := r2) (S' := S2) (As := [.int x1]) (rest := []) C cf7 ((hG 4 a0 x1 S1 _ ha0 h2).2.2.2.2.1 rfl) yv_X7_sum lk_RX7_27 rfl ha0 rfl rfl hl.1 (Nat.le_of_ble_eq_true rfl) (by omega) (by decide) hR (ho_A hR) dX7_compared_96 (fun H locs hR => ?_)
    refine lv_if_ne (tgt := 104) C.1 C.2.1 dX7_compared_99 (by decide) (fun hc => ?_) (fun hc => ?_)
    · replace h := if_f h hc
      refine lv_aload_n C.1 C.2.1 dX7_compared_104 rfl (lv_at hl 1 rfl) ?_
      obtain ⟨p3, e3, hp3, h⟩ := ldP_ok h
      refine hr_getP C cf7 fH_RX7_19 hR ha0 e3 dX7_compared_105 ?_
      refine lv_iload_n C.1 C.2.1 dX7_compared_108 rfl (lv_at hl 0 rfl) ?_
      obtain ⟨S4, h4, h⟩ := ob_ok h
      refine hr_Vv (S' := S4) (As := [.int z0]) (rest := []) C cf4 (c_X4_add l E p3 z0 hp3 _ _ h4) yv_X4_add lk_RX7_50 rfl hp3 rfl rfl hl.1 (Nat.le_of_ble_eq_true rfl) (by omega) (by decide) hR (ho_A hR) dX7_compared_109 (fun H locs hR => ?_)
      refine lv_iconst (v := (1 : Int32)) C.1 C.2.1 dX7_compared_112 (by decide) ?_
      exact ho_zret C hR (Or.inr rfl) h dX7_compared_113
    · replace h := if_t h hc
      refine lv_iconst (v := (0 : Int32)) C.1 C.2.1 dX7_compared_102 (by decide) ?_
      exact ho_zret C hR (Or.inl rfl) h dX7_compared_103
  · replace h := if_t h hc
    refine lv_aload_n C.1 C.2.1 dX7_compared_71 rfl (lv_at hl 1 rfl) ?_
    refine ho_getR (a' := 10) C cf7 fH_RX7_15 hR ha0 (pH_7_0 ha0.2) dX7_compared_72 ?_
    refine lv_iconst (v := (1 : Int32)) C.1 C.2.1 dX7_compared_75 (by decide) ?_
    refine lv_aload_n C.1 C.2.1 dX7_compared_76 rfl (lv_at hl 1 rfl) ?_
    refine ho_getR (a' := 10) C cf7 fH_RX7_15 hR ha0 (pH_7_0 ha0.2) dX7_compared_77 ?_
    refine ho_getI C cf10 fH_RX7_70 hR aH_10 dX7_compared_80 ?_
    obtain ⟨r5, S5, h5, h⟩ := ob2_ok h
    refine hr_Vi (v := r5) (S' := S5) (As := [.int (1 : Int32), .int (S.1 10 5)]) (rest := []) C cf10 (c_X10_wrong l E (1 : Int32) (S.1 10 5) _ _ h5) yv_X10_wrong lk_RX7_73 rfl aH_10 rfl rfl hl.1 (Nat.le_of_ble_eq_true rfl) (by omega) (by decide) hR (ho_A hR) dX7_compared_83 (fun H locs hR => ?_)
    obtain ⟨hz, h⟩ := tr_ok h
    exact ho_zret C hR hz h dX7_compared_86
def f_X7_compared (G : Nat → Nat → Int32 → Hp → Option (Int32 × Hp)) (a0 : Nat) (x1 : Int32) (S : Hp) : Option (Int32 × Hp) :=
  ob2 (G 4 a0 x1 S) (fun r1 S1 => if r1 = 0 then some ((0 : Int32), S1) else ob2 (f_X10_isSign (60 : Int32) S1) (fun r2 S2 => if r2 = 0 then ob2 (f_X10_isSign (62 : Int32) S2) (fun r3 S3 => if r3 = 0 then ob2 (f_X10_isSign (61 : Int32) S3) (fun r4 S4 => if r4 = 0 then f_X7_compared_65 G a0 x1 (-1 : Int32) S4 else f_X7_compared_65 G a0 x1 (10110 : Int32) S4) else f_X7_compared_65 G a0 x1 (10109 : Int32) S3) else f_X7_compared_65 G a0 x1 (10108 : Int32) S2))
set_option maxHeartbeats 4000000 in
set_option maxRecDepth 100000 in
theorem c_X7_compared (l : Launch) (E : Ev) (D : Nat) (hD : 8 ≤ D) (G : Nat → Nat → Int32 → Hp → Option (Int32 × Hp)) (hG : gH l E D G) (a0 : Nat) (x1 : Int32) (ha0 : a0 ∈ yH.1 ∧ yH.2.1 a0 = (1, 7)) (S : Hp) (r : (Int32 × Hp)) (h : f_X7_compared G a0 x1 S = some r) : ho_M l yH E yX7_compared cX7_compared 3 (some .boolean) (D + 1) [.ref (E.2.1 a0), .int x1] S (some (.int r.1), r.2) := by
  refine ho_in (by decide) (Nat.le_of_ble_eq_true rfl) ?_
  intro p e s m args below meth c C hR ls hl
  have C : ho_I p s m args meth c RX7 cX7_compared 3 (some .boolean) := C
  have hl : lv_has ls 3 [(0, .ref (E.2.1 a0)), (1, .int x1)] := hl
  unfold f_X7_compared at h
  refine lv_aload_n C.1 C.2.1 dX7_compared_0 rfl (lv_at hl 0 rfl) ?_
  refine lv_iload_n C.1 C.2.1 dX7_compared_1 rfl (lv_at hl 1 rfl) ?_
  obtain ⟨r1, S1, h1, h⟩ := ob2_ok h
  refine hr_Vi (v := r1) (S' := S1) (As := [.int x1]) (rest := []) C cf7 ((hG 4 a0 x1 S _ ha0 h1).2.2.2.2.1 rfl) yv_X7_sum lk_RX7_27 rfl ha0 rfl rfl hl.1 (Nat.le_of_ble_eq_true rfl) (by omega) (by decide) hR (ho_A hR) dX7_compared_2 (fun H locs hR => ?_)
  refine lv_if_ne (tgt := 10) C.1 C.2.1 dX7_compared_5 (by decide) (fun hc => ?_) (fun hc => ?_)
  · replace h := if_f h hc
    refine lv_aload_n C.1 C.2.1 dX7_compared_10 rfl (lv_at hl 0 rfl) ?_
    refine ho_getR (a' := 10) C cf7 fH_RX7_15 hR ha0 (pH_7_0 ha0.2) dX7_compared_11 ?_
    refine lv_bipush (v := (60 : Int32)) C.1 C.2.1 dX7_compared_14 (by decide) ?_
    obtain ⟨r2, S2, h2, h⟩ := ob2_ok h
    refine hr_Vi (v := r2) (S' := S2) (As := [.int (60 : Int32)]) (rest := []) C cf10 (c_X10_isSign l E (60 : Int32) _ _ h2) yv_X10_isSign lk_RX7_60 rfl aH_10 rfl rfl hl.1 (Nat.le_of_ble_eq_true rfl) (by omega) (by decide) hR (ho_A hR) dX7_compared_16 (fun H locs hR => ?_)
    refine lv_if_eq (tgt := 28) C.1 C.2.1 dX7_compared_19 (by decide) (fun hc => ?_) (fun hc => ?_)
    · replace h := if_t h hc
      refine lv_aload_n C.1 C.2.1 dX7_compared_28 rfl (lv_at hl 0 rfl) ?_
      refine ho_getR (a' := 10) C cf7 fH_RX7_15 hR ha0 (pH_7_0 ha0.2) dX7_compared_29 ?_
      refine lv_bipush (v := (62 : Int32)) C.1 C.2.1 dX7_compared_32 (by decide) ?_
      obtain ⟨r3, S3, h3, h⟩ := ob2_ok h
      refine hr_Vi (v := r3) (S' := S3) (As := [.int (62 : Int32)]) (rest := []) C cf10 (c_X10_isSign l E (62 : Int32) _ _ h3) yv_X10_isSign lk_RX7_60 rfl aH_10 rfl rfl hl.1 (Nat.le_of_ble_eq_true rfl) (by omega) (by decide) hR (ho_A hR) dX7_compared_34 (fun H locs hR => ?_)
      refine lv_if_eq (tgt := 46) C.1 C.2.1 dX7_compared_37 (by decide) (fun hc => ?_) (fun hc => ?_)
      · replace h := if_t h hc
        refine lv_aload_n C.1 C.2.1 dX7_compared_46 rfl (lv_at hl 0 rfl) ?_
        refine ho_getR (a' := 10) C cf7 fH_RX7_15 hR ha0 (pH_7_0 ha0.2) dX7_compared_47 ?_
        refine lv_bipush (v := (61 : Int32)) C.1 C.2.1 dX7_compared_50 (by decide) ?_
        obtain ⟨r4, S4, h4, h⟩ := ob2_ok h
        refine hr_Vi (v := r4) (S' := S4) (As := [.int (61 : Int32)]) (rest := []) C cf10 (c_X10_isSign l E (61 : Int32) _ _ h4) yv_X10_isSign lk_RX7_60 rfl aH_10 rfl rfl hl.1 (Nat.le_of_ble_eq_true rfl) (by omega) (by decide) hR (ho_A hR) dX7_compared_52 (fun H locs hR => ?_)
        refine lv_if_eq (tgt := 64) C.1 C.2.1 dX7_compared_55 (by decide) (fun hc => ?_) (fun hc => ?_)
        · replace h := if_t h hc
          refine lv_iconst (v := (-1 : Int32)) C.1 C.2.1 dX7_compared_64 (by decide) ?_
          exact w_X7_compared_65 C hD G hG a0 ha0 x1 (-1 : Int32) S4 h _ _ _ hR (lv_sub hl [0, 1] rfl)
        · replace h := if_f h hc
          refine lv_sipush (v := (10110 : Int32)) C.1 C.2.1 dX7_compared_58 (by decide) ?_
          refine lv_goto (tgt := 65) C.1 C.2.1 dX7_compared_61 (by decide) ?_
          exact w_X7_compared_65 C hD G hG a0 ha0 x1 (10110 : Int32) S4 h _ _ _ hR (lv_sub hl [0, 1] rfl)
      · replace h := if_f h hc
        refine lv_sipush (v := (10109 : Int32)) C.1 C.2.1 dX7_compared_40 (by decide) ?_
        refine lv_goto (tgt := 65) C.1 C.2.1 dX7_compared_43 (by decide) ?_
        exact w_X7_compared_65 C hD G hG a0 ha0 x1 (10109 : Int32) S3 h _ _ _ hR (lv_sub hl [0, 1] rfl)
    · replace h := if_f h hc
      refine lv_sipush (v := (10108 : Int32)) C.1 C.2.1 dX7_compared_22 (by decide) ?_
      refine lv_goto (tgt := 65) C.1 C.2.1 dX7_compared_25 (by decide) ?_
      exact w_X7_compared_65 C hD G hG a0 ha0 x1 (10108 : Int32) S2 h _ _ _ hR (lv_sub hl [0, 1] rfl)
  · replace h := if_t h hc
    refine lv_iconst (v := (0 : Int32)) C.1 C.2.1 dX7_compared_8 (by decide) ?_
    exact ho_zret C hR (Or.inl rfl) h dX7_compared_9
theorem dX7_sum_0 : decode cX7_sum 0 = .ok (.aload_n 0, 1) := by decide +kernel
theorem dX7_sum_1 : decode cX7_sum 1 = .ok (.iload_n 1, 1) := by decide +kernel
theorem dX7_sum_2 : decode cX7_sum 2 = .ok (.invokevirtual 77, 3) := by decide +kernel
theorem dX7_sum_5 : decode cX7_sum 5 = .ok (.ifCond .ne 5, 3) := by decide +kernel
theorem dX7_sum_8 : decode cX7_sum 8 = .ok (.iconst 0, 1) := by decide +kernel
theorem dX7_sum_9 : decode cX7_sum 9 = .ok (.ireturn, 1) := by decide +kernel
theorem dX7_sum_10 : decode cX7_sum 10 = .ok (.iconst 0, 1) := by decide +kernel
theorem dX7_sum_11 : decode cX7_sum 11 = .ok (.istore_n 2, 1) := by decide +kernel
theorem dX7_sum_12 : decode cX7_sum 12 = .ok (.iload_n 2, 1) := by decide +kernel
theorem dX7_sum_13 : decode cX7_sum 13 = .ok (.sipush 1600, 3) := by decide +kernel
theorem dX7_sum_16 : decode cX7_sum 16 = .ok (.if_icmp .ge 80, 3) := by decide +kernel
theorem dX7_sum_19 : decode cX7_sum 19 = .ok (.aload_n 0, 1) := by decide +kernel
theorem dX7_sum_20 : decode cX7_sum 20 = .ok (.getfield 15, 3) := by decide +kernel
theorem dX7_sum_23 : decode cX7_sum 23 = .ok (.bipush 43, 2) := by decide +kernel
theorem dX7_sum_25 : decode cX7_sum 25 = .ok (.invokevirtual 60, 3) := by decide +kernel
theorem dX7_sum_28 : decode cX7_sum 28 = .ok (.ifCond .ne 15, 3) := by decide +kernel
theorem dX7_sum_31 : decode cX7_sum 31 = .ok (.aload_n 0, 1) := by decide +kernel
theorem dX7_sum_32 : decode cX7_sum 32 = .ok (.getfield 15, 3) := by decide +kernel
theorem dX7_sum_35 : decode cX7_sum 35 = .ok (.bipush 45, 2) := by decide +kernel
theorem dX7_sum_37 : decode cX7_sum 37 = .ok (.invokevirtual 60, 3) := by decide +kernel
theorem dX7_sum_40 : decode cX7_sum 40 = .ok (.ifCond .eq 56, 3) := by decide +kernel
theorem dX7_sum_43 : decode cX7_sum 43 = .ok (.aload_n 0, 1) := by decide +kernel
theorem dX7_sum_44 : decode cX7_sum 44 = .ok (.getfield 15, 3) := by decide +kernel
theorem dX7_sum_47 : decode cX7_sum 47 = .ok (.bipush 43, 2) := by decide +kernel
theorem dX7_sum_49 : decode cX7_sum 49 = .ok (.invokevirtual 60, 3) := by decide +kernel
theorem dX7_sum_52 : decode cX7_sum 52 = .ok (.ifCond .eq 9, 3) := by decide +kernel
theorem dX7_sum_55 : decode cX7_sum 55 = .ok (.sipush 10100, 3) := by decide +kernel
theorem dX7_sum_58 : decode cX7_sum 58 = .ok (.goto 6, 3) := by decide +kernel
theorem dX7_sum_61 : decode cX7_sum 61 = .ok (.sipush 10101, 3) := by decide +kernel
theorem dX7_sum_64 : decode cX7_sum 64 = .ok (.istore_n 3, 1) := by decide +kernel
theorem dX7_sum_65 : decode cX7_sum 65 = .ok (.aload_n 0, 1) := by decide +kernel
theorem dX7_sum_66 : decode cX7_sum 66 = .ok (.getfield 15, 3) := by decide +kernel
theorem dX7_sum_69 : decode cX7_sum 69 = .ok (.invokevirtual 47, 3) := by decide +kernel
theorem dX7_sum_72 : decode cX7_sum 72 = .ok (.aload_n 0, 1) := by decide +kernel
theorem dX7_sum_73 : decode cX7_sum 73 = .ok (.iload_n 1, 1) := by decide +kernel
theorem dX7_sum_74 : decode cX7_sum 74 = .ok (.invokevirtual 77, 3) := by decide +kernel
theorem dX7_sum_77 : decode cX7_sum 77 = .ok (.ifCond .ne 5, 3) := by decide +kernel
theorem dX7_sum_80 : decode cX7_sum 80 = .ok (.iconst 0, 1) := by decide +kernel
theorem dX7_sum_81 : decode cX7_sum 81 = .ok (.ireturn, 1) := by decide +kernel
theorem dX7_sum_82 : decode cX7_sum 82 = .ok (.aload_n 0, 1) := by decide +kernel
theorem dX7_sum_83 : decode cX7_sum 83 = .ok (.getfield 19, 3) := by decide +kernel
theorem dX7_sum_86 : decode cX7_sum 86 = .ok (.iload_n 3, 1) := by decide +kernel
theorem dX7_sum_87 : decode cX7_sum 87 = .ok (.invokevirtual 50, 3) := by decide +kernel
theorem dX7_sum_90 : decode cX7_sum 90 = .ok (.iinc 2 1, 3) := by decide +kernel
theorem dX7_sum_93 : decode cX7_sum 93 = .ok (.goto (-81), 3) := by decide +kernel
theorem dX7_sum_96 : decode cX7_sum 96 = .ok (.iconst 1, 1) := by decide +kernel
theorem dX7_sum_97 : decode cX7_sum 97 = .ok (.ireturn, 1) := by decide +kernel
def f_X7_sum_64 (G : Nat → Nat → Int32 → Hp → Option (Int32 × Hp)) (K12 : Int32 → Int32 → Hp → Option (Int32 × Hp)) (a0 : Nat) (x1 : Int32) (x2 : Int32) (z0 : Int32) (S : Hp) : Option (Int32 × Hp) :=
  ob (f_X10_next S) (fun S1 => ob2 (G 5 a0 x1 S1) (fun r2 S2 => if r2 = 0 then some ((0 : Int32), S2) else ldP yH S2 a0 1 4 (fun p3 => ob (f_X4_add p3 z0 S2) (fun S4 => le1 (x2 + (1 : Int32)) (fun v5 => K12 x1 v5 S4)))))
set_option maxHeartbeats 4000000 in
set_option maxRecDepth 100000 in
theorem w_X7_sum_64 {p : Program} {l : Launch} {e : Env} {s : State} {m : MethodId} {args : Array Value} {below : List Frame} {meth : Method} {c : Code} {E : Ev} {S0 : Hp} {r : (Int32 × Hp)} (C : ho_I p s m args meth c RX7 cX7_sum 4 (some .boolean)) {D : Nat} (hD : 8 ≤ D) (G : Nat → Nat → Int32 → Hp → Option (Int32 × Hp)) (hG : gH l E D G) (K12 : Int32 → Int32 → Hp → Option (Int32 × Hp)) (a0 : Nat) (ha0 : a0 ∈ yH.1 ∧ yH.2.1 a0 = (1, 7)) (hK12 : ∀ (y1 : Int32) (y2 : Int32) (S : Hp), K12 y1 y2 S = some r → ho_G p l e s m args below meth c yH E S0 (D + 1) 4 (some (.int r.1), r.2) 12 [(0, .ref (E.2.1 a0)), (1, .int y1), (2, .int y2)] [] S) :
    ∀ (x1 : Int32) (x2 : Int32) (z0 : Int32) (S : Hp), f_X7_sum_64 G K12 a0 x1 x2 z0 S = some r → ho_G p l e s m args below meth c yH E S0 (D + 1) 4 (some (.int r.1), r.2) 64 [(0, .ref (E.2.1 a0)), (1, .int x1), (2, .int x2)] [.int z0] S := by
  intro x1 x2 z0 S h H locs ls hR hl
  unfold f_X7_sum_64 at h
  refine lv_istore_n (lv' := [(3, .int z0), (0, .ref (E.2.1 a0)), (1, .int x1), (2, .int x2)]) C.1 C.2.1 dX7_sum_64 rfl hl (by decide) rfl (fun ls hl => ?_)
  refine lv_aload_n C.1 C.2.1 dX7_sum_65 rfl (lv_at hl 1 rfl) ?_
  refine ho_getR (a' := 10) C cf7 fH_RX7_15 hR ha0 (pH_7_0 ha0.2) dX7_sum_66 ?_
  obtain ⟨S1, h1, h⟩ := ob_ok h
  refine hr_Vv (S' := S1) (As := []) (rest := []) C cf10 (c_X10_next l E _ _ h1) yv_X10_next lk_RX7_47 rfl aH_10 rfl rfl hl.1 (Nat.le_of_ble_eq_true rfl) (by omega) (by decide) hR (ho_A hR) dX7_sum_69 (fun H locs hR => ?_)
  refine lv_aload_n C.1 C.2.1 dX7_sum_72 rfl (lv_at hl 1 rfl) ?_
  refine lv_iload_n C.1 C.2.1 dX7_sum_73 rfl (lv_at hl 2 rfl) ?_
  obtain ⟨r2, S2, h2, h⟩ := ob2_ok h
  refine hr_Vi (v := r2) (S' := S2) (As := [.int x1]) (rest := []) C cf7 ((hG 5 a0 x1 S1 _ ha0 h2).2.2.2.2.2.1 rfl) yv_X7_product lk_RX7_77 rfl ha0 rfl rfl hl.1 (Nat.le_of_ble_eq_true rfl) (by omega) (by decide) hR (ho_A hR) dX7_sum_74 (fun H locs hR => ?_)
  refine lv_if_ne (tgt := 82) C.1 C.2.1 dX7_sum_77 (by decide) (fun hc => ?_) (fun hc => ?_)
  · replace h := if_f h hc
    refine lv_aload_n C.1 C.2.1 dX7_sum_82 rfl (lv_at hl 1 rfl) ?_
    obtain ⟨p3, e3, hp3, h⟩ := ldP_ok h
    refine hr_getP C cf7 fH_RX7_19 hR ha0 e3 dX7_sum_83 ?_
    refine lv_iload_n C.1 C.2.1 dX7_sum_86 rfl (lv_at hl 0 rfl) ?_
    obtain ⟨S4, h4, h⟩ := ob_ok h
    refine hr_Vv (S' := S4) (As := [.int z0]) (rest := []) C cf4 (c_X4_add l E p3 z0 hp3 _ _ h4) yv_X4_add lk_RX7_50 rfl hp3 rfl rfl hl.1 (Nat.le_of_ble_eq_true rfl) (by omega) (by decide) hR (ho_A hR) dX7_sum_87 (fun H locs hR => ?_)
    obtain ⟨v5, e5, h⟩ := le1_ok h
    refine lv_iinc (v := v5) (lv' := [(2, .int v5), (3, .int z0), (0, .ref (E.2.1 a0)), (1, .int x1)]) C.1 C.2.1 dX7_sum_90 hl (k := 3) rfl (by rw [e5]; rfl) (by decide) rfl (fun ls hl => ?_)
    refine lv_goto (tgt := 12) C.1 C.2.1 dX7_sum_93 (by decide) ?_
    exact hK12 x1 v5 S4 h _ _ _ hR (lv_sub hl [2, 3, 0] rfl)
  · replace h := if_t h hc
    refine lv_iconst (v := (0 : Int32)) C.1 C.2.1 dX7_sum_80 (by decide) ?_
    exact ho_zret C hR (Or.inl rfl) h dX7_sum_81
def f_X7_sum_43 (G : Nat → Nat → Int32 → Hp → Option (Int32 × Hp)) (K12 : Int32 → Int32 → Hp → Option (Int32 × Hp)) (a0 : Nat) (x1 : Int32) (x2 : Int32) (S : Hp) : Option (Int32 × Hp) :=
  ob2 (f_X10_isSign (43 : Int32) S) (fun r1 S1 => if r1 = 0 then f_X7_sum_64 G K12 a0 x1 x2 (10101 : Int32) S1 else f_X7_sum_64 G K12 a0 x1 x2 (10100 : Int32) S1)
set_option maxHeartbeats 4000000 in
set_option maxRecDepth 100000 in
theorem w_X7_sum_43 {p : Program} {l : Launch} {e : Env} {s : State} {m : MethodId} {args : Array Value} {below : List Frame} {meth : Method} {c : Code} {E : Ev} {S0 : Hp} {r : (Int32 × Hp)} (C : ho_I p s m args meth c RX7 cX7_sum 4 (some .boolean)) {D : Nat} (hD : 8 ≤ D) (G : Nat → Nat → Int32 → Hp → Option (Int32 × Hp)) (hG : gH l E D G) (K12 : Int32 → Int32 → Hp → Option (Int32 × Hp)) (a0 : Nat) (ha0 : a0 ∈ yH.1 ∧ yH.2.1 a0 = (1, 7)) (hK12 : ∀ (y1 : Int32) (y2 : Int32) (S : Hp), K12 y1 y2 S = some r → ho_G p l e s m args below meth c yH E S0 (D + 1) 4 (some (.int r.1), r.2) 12 [(0, .ref (E.2.1 a0)), (1, .int y1), (2, .int y2)] [] S) :
    ∀ (x1 : Int32) (x2 : Int32) (S : Hp), f_X7_sum_43 G K12 a0 x1 x2 S = some r → ho_G p l e s m args below meth c yH E S0 (D + 1) 4 (some (.int r.1), r.2) 43 [(0, .ref (E.2.1 a0)), (1, .int x1), (2, .int x2)] [] S := by
  intro x1 x2 S h H locs ls hR hl
  unfold f_X7_sum_43 at h
  refine lv_aload_n C.1 C.2.1 dX7_sum_43 rfl (lv_at hl 0 rfl) ?_
  refine ho_getR (a' := 10) C cf7 fH_RX7_15 hR ha0 (pH_7_0 ha0.2) dX7_sum_44 ?_
  refine lv_bipush (v := (43 : Int32)) C.1 C.2.1 dX7_sum_47 (by decide) ?_
  obtain ⟨r1, S1, h1, h⟩ := ob2_ok h
  refine hr_Vi (v := r1) (S' := S1) (As := [.int (43 : Int32)]) (rest := []) C cf10 (c_X10_isSign l E (43 : Int32) _ _ h1) yv_X10_isSign lk_RX7_60 rfl aH_10 rfl rfl hl.1 (Nat.le_of_ble_eq_true rfl) (by omega) (by decide) hR (ho_A hR) dX7_sum_49 (fun H locs hR => ?_)
  refine lv_if_eq (tgt := 61) C.1 C.2.1 dX7_sum_52 (by decide) (fun hc => ?_) (fun hc => ?_)
  · replace h := if_t h hc
    refine lv_sipush (v := (10101 : Int32)) C.1 C.2.1 dX7_sum_61 (by decide) ?_
    exact w_X7_sum_64 C hD G hG K12 a0 ha0 hK12 x1 x2 (10101 : Int32) S1 h _ _ _ hR (lv_sub hl [0, 1, 2] rfl)
  · replace h := if_f h hc
    refine lv_sipush (v := (10100 : Int32)) C.1 C.2.1 dX7_sum_55 (by decide) ?_
    refine lv_goto (tgt := 64) C.1 C.2.1 dX7_sum_58 (by decide) ?_
    exact w_X7_sum_64 C hD G hG K12 a0 ha0 hK12 x1 x2 (10100 : Int32) S1 h _ _ _ hR (lv_sub hl [0, 1, 2] rfl)
def f_X7_sum_12 (G : Nat → Nat → Int32 → Hp → Option (Int32 × Hp)) (a0 : Nat) : Nat → Int32 → Int32 → Hp → Option (Int32 × Hp)
  | 0, _, _, _ => none
  | k + 1, x1, x2, S => if (1600 : Int32) ≤ x2 then some ((1 : Int32), S) else ob2 (f_X10_isSign (43 : Int32) S) (fun r1 S1 => if r1 = 0 then ob2 (f_X10_isSign (45 : Int32) S1) (fun r2 S2 => if r2 = 0 then some ((1 : Int32), S2) else f_X7_sum_43 G (f_X7_sum_12 G a0 k) a0 x1 x2 S2) else f_X7_sum_43 G (f_X7_sum_12 G a0 k) a0 x1 x2 S1)
set_option maxHeartbeats 4000000 in
set_option maxRecDepth 100000 in
theorem w_X7_sum_12 {p : Program} {l : Launch} {e : Env} {s : State} {m : MethodId} {args : Array Value} {below : List Frame} {meth : Method} {c : Code} {E : Ev} {S0 : Hp} {r : (Int32 × Hp)} (C : ho_I p s m args meth c RX7 cX7_sum 4 (some .boolean)) {D : Nat} (hD : 8 ≤ D) (G : Nat → Nat → Int32 → Hp → Option (Int32 × Hp)) (hG : gH l E D G) (a0 : Nat) (ha0 : a0 ∈ yH.1 ∧ yH.2.1 a0 = (1, 7)) :
    ∀ (k : Nat) (x1 : Int32) (x2 : Int32) (S : Hp), f_X7_sum_12 G a0 k x1 x2 S = some r → ho_G p l e s m args below meth c yH E S0 (D + 1) 4 (some (.int r.1), r.2) 12 [(0, .ref (E.2.1 a0)), (1, .int x1), (2, .int x2)] [] S := by
  intro k
  induction k with
  | zero =>
    intro x1 x2 S h
    exact absurd (show (none : Option (Int32 × Hp)) = some r from h) (by simp)
  | succ k ih =>
    intro x1 x2 S h H locs ls hR hl
    rw [f_X7_sum_12] at h
    refine lv_iload_n C.1 C.2.1 dX7_sum_12 rfl (lv_at hl 2 rfl) ?_
    refine lv_sipush (v := (1600 : Int32)) C.1 C.2.1 dX7_sum_13 (by decide) ?_
    refine lv_icmp_ge (tgt := 96) C.1 C.2.1 dX7_sum_16 (by decide) (fun hc => ?_) (fun hc => ?_)
    · replace h := if_t h hc
      refine lv_iconst (v := (1 : Int32)) C.1 C.2.1 dX7_sum_96 (by decide) ?_
      exact ho_zret C hR (Or.inr rfl) h dX7_sum_97
    · replace h := if_f h hc
      refine lv_aload_n C.1 C.2.1 dX7_sum_19 rfl (lv_at hl 0 rfl) ?_
      refine ho_getR (a' := 10) C cf7 fH_RX7_15 hR ha0 (pH_7_0 ha0.2) dX7_sum_20 ?_
      refine lv_bipush (v := (43 : Int32)) C.1 C.2.1 dX7_sum_23 (by decide) ?_
      obtain ⟨r1, S1, h1, h⟩ := ob2_ok h
      refine hr_Vi (v := r1) (S' := S1) (As := [.int (43 : Int32)]) (rest := []) C cf10 (c_X10_isSign l E (43 : Int32) _ _ h1) yv_X10_isSign lk_RX7_60 rfl aH_10 rfl rfl hl.1 (Nat.le_of_ble_eq_true rfl) (by omega) (by decide) hR (ho_A hR) dX7_sum_25 (fun H locs hR => ?_)
      refine lv_if_ne (tgt := 43) C.1 C.2.1 dX7_sum_28 (by decide) (fun hc => ?_) (fun hc => ?_)
      · replace h := if_f h hc
        exact w_X7_sum_43 C hD G hG (f_X7_sum_12 G a0 k) a0 ha0 ih x1 x2 S1 h _ _ _ hR (lv_sub hl [0, 1, 2] rfl)
      · replace h := if_t h hc
        refine lv_aload_n C.1 C.2.1 dX7_sum_31 rfl (lv_at hl 0 rfl) ?_
        refine ho_getR (a' := 10) C cf7 fH_RX7_15 hR ha0 (pH_7_0 ha0.2) dX7_sum_32 ?_
        refine lv_bipush (v := (45 : Int32)) C.1 C.2.1 dX7_sum_35 (by decide) ?_
        obtain ⟨r2, S2, h2, h⟩ := ob2_ok h
        refine hr_Vi (v := r2) (S' := S2) (As := [.int (45 : Int32)]) (rest := []) C cf10 (c_X10_isSign l E (45 : Int32) _ _ h2) yv_X10_isSign lk_RX7_60 rfl aH_10 rfl rfl hl.1 (Nat.le_of_ble_eq_true rfl) (by omega) (by decide) hR (ho_A hR) dX7_sum_37 (fun H locs hR => ?_)
        refine lv_if_eq (tgt := 96) C.1 C.2.1 dX7_sum_40 (by decide) (fun hc => ?_) (fun hc => ?_)
        · replace h := if_t h hc
          refine lv_iconst (v := (1 : Int32)) C.1 C.2.1 dX7_sum_96 (by decide) ?_
          exact ho_zret C hR (Or.inr rfl) h dX7_sum_97
        · replace h := if_f h hc
          exact w_X7_sum_43 C hD G hG (f_X7_sum_12 G a0 k) a0 ha0 ih x1 x2 S2 h _ _ _ hR (lv_sub hl [0, 1, 2] rfl)
def f_X7_sum (G : Nat → Nat → Int32 → Hp → Option (Int32 × Hp)) (a0 : Nat) (x1 : Int32) (S : Hp) : Option (Int32 × Hp) :=
  ob2 (G 5 a0 x1 S) (fun r1 S1 => if r1 = 0 then some ((0 : Int32), S1) else f_X7_sum_12 G a0 5000 x1 (0 : Int32) S1)
set_option maxHeartbeats 4000000 in
set_option maxRecDepth 100000 in
theorem c_X7_sum (l : Launch) (E : Ev) (D : Nat) (hD : 8 ≤ D) (G : Nat → Nat → Int32 → Hp → Option (Int32 × Hp)) (hG : gH l E D G) (a0 : Nat) (x1 : Int32) (ha0 : a0 ∈ yH.1 ∧ yH.2.1 a0 = (1, 7)) (S : Hp) (r : (Int32 × Hp)) (h : f_X7_sum G a0 x1 S = some r) : ho_M l yH E yX7_sum cX7_sum 4 (some .boolean) (D + 1) [.ref (E.2.1 a0), .int x1] S (some (.int r.1), r.2) := by
  refine ho_in (by decide) (Nat.le_of_ble_eq_true rfl) ?_
  intro p e s m args below meth c C hR ls hl
  have C : ho_I p s m args meth c RX7 cX7_sum 4 (some .boolean) := C
  have hl : lv_has ls 4 [(0, .ref (E.2.1 a0)), (1, .int x1)] := hl
  unfold f_X7_sum at h
  refine lv_aload_n C.1 C.2.1 dX7_sum_0 rfl (lv_at hl 0 rfl) ?_
  refine lv_iload_n C.1 C.2.1 dX7_sum_1 rfl (lv_at hl 1 rfl) ?_
  obtain ⟨r1, S1, h1, h⟩ := ob2_ok h
  refine hr_Vi (v := r1) (S' := S1) (As := [.int x1]) (rest := []) C cf7 ((hG 5 a0 x1 S _ ha0 h1).2.2.2.2.2.1 rfl) yv_X7_product lk_RX7_77 rfl ha0 rfl rfl hl.1 (Nat.le_of_ble_eq_true rfl) (by omega) (by decide) hR (ho_A hR) dX7_sum_2 (fun H locs hR => ?_)
  refine lv_if_ne (tgt := 10) C.1 C.2.1 dX7_sum_5 (by decide) (fun hc => ?_) (fun hc => ?_)
  · replace h := if_f h hc
    refine lv_iconst (v := (0 : Int32)) C.1 C.2.1 dX7_sum_10 (by decide) ?_
    refine lv_istore_n (lv' := [(2, .int (0 : Int32)), (0, .ref (E.2.1 a0)), (1, .int x1)]) C.1 C.2.1 dX7_sum_11 rfl hl (by decide) rfl (fun ls hl => ?_)
    exact w_X7_sum_12 C hD G hG a0 ha0 5000 x1 (0 : Int32) S1 h _ _ _ hR (lv_sub hl [1, 2, 0] rfl)
  · replace h := if_t h hc
    refine lv_iconst (v := (0 : Int32)) C.1 C.2.1 dX7_sum_8 (by decide) ?_
    exact ho_zret C hR (Or.inl rfl) h dX7_sum_9
theorem dX7_product_0 : decode cX7_product 0 = .ok (.aload_n 0, 1) := by decide +kernel
theorem dX7_product_1 : decode cX7_product 1 = .ok (.iload_n 1, 1) := by decide +kernel
theorem dX7_product_2 : decode cX7_product 2 = .ok (.invokevirtual 80, 3) := by decide +kernel
theorem dX7_product_5 : decode cX7_product 5 = .ok (.ifCond .ne 5, 3) := by decide +kernel
theorem dX7_product_8 : decode cX7_product 8 = .ok (.iconst 0, 1) := by decide +kernel
theorem dX7_product_9 : decode cX7_product 9 = .ok (.ireturn, 1) := by decide +kernel
theorem dX7_product_10 : decode cX7_product 10 = .ok (.iconst 0, 1) := by decide +kernel
theorem dX7_product_11 : decode cX7_product 11 = .ok (.istore_n 2, 1) := by decide +kernel
theorem dX7_product_12 : decode cX7_product 12 = .ok (.iload_n 2, 1) := by decide +kernel
theorem dX7_product_13 : decode cX7_product 13 = .ok (.sipush 1600, 3) := by decide +kernel
theorem dX7_product_16 : decode cX7_product 16 = .ok (.if_icmp .ge 80, 3) := by decide +kernel
theorem dX7_product_19 : decode cX7_product 19 = .ok (.aload_n 0, 1) := by decide +kernel
theorem dX7_product_20 : decode cX7_product 20 = .ok (.getfield 15, 3) := by decide +kernel
theorem dX7_product_23 : decode cX7_product 23 = .ok (.bipush 42, 2) := by decide +kernel
theorem dX7_product_25 : decode cX7_product 25 = .ok (.invokevirtual 60, 3) := by decide +kernel
theorem dX7_product_28 : decode cX7_product 28 = .ok (.ifCond .ne 15, 3) := by decide +kernel
theorem dX7_product_31 : decode cX7_product 31 = .ok (.aload_n 0, 1) := by decide +kernel
theorem dX7_product_32 : decode cX7_product 32 = .ok (.getfield 15, 3) := by decide +kernel
theorem dX7_product_35 : decode cX7_product 35 = .ok (.bipush 47, 2) := by decide +kernel
theorem dX7_product_37 : decode cX7_product 37 = .ok (.invokevirtual 60, 3) := by decide +kernel
theorem dX7_product_40 : decode cX7_product 40 = .ok (.ifCond .eq 56, 3) := by decide +kernel
theorem dX7_product_43 : decode cX7_product 43 = .ok (.aload_n 0, 1) := by decide +kernel
theorem dX7_product_44 : decode cX7_product 44 = .ok (.getfield 15, 3) := by decide +kernel
theorem dX7_product_47 : decode cX7_product 47 = .ok (.bipush 42, 2) := by decide +kernel
theorem dX7_product_49 : decode cX7_product 49 = .ok (.invokevirtual 60, 3) := by decide +kernel
theorem dX7_product_52 : decode cX7_product 52 = .ok (.ifCond .eq 9, 3) := by decide +kernel
theorem dX7_product_55 : decode cX7_product 55 = .ok (.sipush 10102, 3) := by decide +kernel
theorem dX7_product_58 : decode cX7_product 58 = .ok (.goto 6, 3) := by decide +kernel
theorem dX7_product_61 : decode cX7_product 61 = .ok (.sipush 10103, 3) := by decide +kernel
theorem dX7_product_64 : decode cX7_product 64 = .ok (.istore_n 3, 1) := by decide +kernel
theorem dX7_product_65 : decode cX7_product 65 = .ok (.aload_n 0, 1) := by decide +kernel
theorem dX7_product_66 : decode cX7_product 66 = .ok (.getfield 15, 3) := by decide +kernel
theorem dX7_product_69 : decode cX7_product 69 = .ok (.invokevirtual 47, 3) := by decide +kernel
theorem dX7_product_72 : decode cX7_product 72 = .ok (.aload_n 0, 1) := by decide +kernel
theorem dX7_product_73 : decode cX7_product 73 = .ok (.iload_n 1, 1) := by decide +kernel
theorem dX7_product_74 : decode cX7_product 74 = .ok (.invokevirtual 80, 3) := by decide +kernel
theorem dX7_product_77 : decode cX7_product 77 = .ok (.ifCond .ne 5, 3) := by decide +kernel
theorem dX7_product_80 : decode cX7_product 80 = .ok (.iconst 0, 1) := by decide +kernel
theorem dX7_product_81 : decode cX7_product 81 = .ok (.ireturn, 1) := by decide +kernel
theorem dX7_product_82 : decode cX7_product 82 = .ok (.aload_n 0, 1) := by decide +kernel
theorem dX7_product_83 : decode cX7_product 83 = .ok (.getfield 19, 3) := by decide +kernel
theorem dX7_product_86 : decode cX7_product 86 = .ok (.iload_n 3, 1) := by decide +kernel
theorem dX7_product_87 : decode cX7_product 87 = .ok (.invokevirtual 50, 3) := by decide +kernel
theorem dX7_product_90 : decode cX7_product 90 = .ok (.iinc 2 1, 3) := by decide +kernel
theorem dX7_product_93 : decode cX7_product 93 = .ok (.goto (-81), 3) := by decide +kernel
theorem dX7_product_96 : decode cX7_product 96 = .ok (.iconst 1, 1) := by decide +kernel
theorem dX7_product_97 : decode cX7_product 97 = .ok (.ireturn, 1) := by decide +kernel
def f_X7_product_64 (G : Nat → Nat → Int32 → Hp → Option (Int32 × Hp)) (K12 : Int32 → Int32 → Hp → Option (Int32 × Hp)) (a0 : Nat) (x1 : Int32) (x2 : Int32) (z0 : Int32) (S : Hp) : Option (Int32 × Hp) :=
  ob (f_X10_next S) (fun S1 => ob2 (G 6 a0 x1 S1) (fun r2 S2 => if r2 = 0 then some ((0 : Int32), S2) else ldP yH S2 a0 1 4 (fun p3 => ob (f_X4_add p3 z0 S2) (fun S4 => le1 (x2 + (1 : Int32)) (fun v5 => K12 x1 v5 S4)))))
set_option maxHeartbeats 4000000 in
set_option maxRecDepth 100000 in
theorem w_X7_product_64 {p : Program} {l : Launch} {e : Env} {s : State} {m : MethodId} {args : Array Value} {below : List Frame} {meth : Method} {c : Code} {E : Ev} {S0 : Hp} {r : (Int32 × Hp)} (C : ho_I p s m args meth c RX7 cX7_product 4 (some .boolean)) {D : Nat} (hD : 8 ≤ D) (G : Nat → Nat → Int32 → Hp → Option (Int32 × Hp)) (hG : gH l E D G) (K12 : Int32 → Int32 → Hp → Option (Int32 × Hp)) (a0 : Nat) (ha0 : a0 ∈ yH.1 ∧ yH.2.1 a0 = (1, 7)) (hK12 : ∀ (y1 : Int32) (y2 : Int32) (S : Hp), K12 y1 y2 S = some r → ho_G p l e s m args below meth c yH E S0 (D + 1) 4 (some (.int r.1), r.2) 12 [(0, .ref (E.2.1 a0)), (1, .int y1), (2, .int y2)] [] S) :
    ∀ (x1 : Int32) (x2 : Int32) (z0 : Int32) (S : Hp), f_X7_product_64 G K12 a0 x1 x2 z0 S = some r → ho_G p l e s m args below meth c yH E S0 (D + 1) 4 (some (.int r.1), r.2) 64 [(0, .ref (E.2.1 a0)), (1, .int x1), (2, .int x2)] [.int z0] S := by
  intro x1 x2 z0 S h H locs ls hR hl
  unfold f_X7_product_64 at h
  refine lv_istore_n (lv' := [(3, .int z0), (0, .ref (E.2.1 a0)), (1, .int x1), (2, .int x2)]) C.1 C.2.1 dX7_product_64 rfl hl (by decide) rfl (fun ls hl => ?_)
  refine lv_aload_n C.1 C.2.1 dX7_product_65 rfl (lv_at hl 1 rfl) ?_
  refine ho_getR (a' := 10) C cf7 fH_RX7_15 hR ha0 (pH_7_0 ha0.2) dX7_product_66 ?_
  obtain ⟨S1, h1, h⟩ := ob_ok h
  refine hr_Vv (S' := S1) (As := []) (rest := []) C cf10 (c_X10_next l E _ _ h1) yv_X10_next lk_RX7_47 rfl aH_10 rfl rfl hl.1 (Nat.le_of_ble_eq_true rfl) (by omega) (by decide) hR (ho_A hR) dX7_product_69 (fun H locs hR => ?_)
  refine lv_aload_n C.1 C.2.1 dX7_product_72 rfl (lv_at hl 1 rfl) ?_
  refine lv_iload_n C.1 C.2.1 dX7_product_73 rfl (lv_at hl 2 rfl) ?_
  obtain ⟨r2, S2, h2, h⟩ := ob2_ok h
  refine hr_Vi (v := r2) (S' := S2) (As := [.int x1]) (rest := []) C cf7 ((hG 6 a0 x1 S1 _ ha0 h2).2.2.2.2.2.2.1 rfl) yv_X7_part lk_RX7_80 rfl ha0 rfl rfl hl.1 (Nat.le_of_ble_eq_true rfl) (by omega) (by decide) hR (ho_A hR) dX7_product_74 (fun H locs hR => ?_)
  refine lv_if_ne (tgt := 82) C.1 C.2.1 dX7_product_77 (by decide) (fun hc => ?_) (fun hc => ?_)
  · replace h := if_f h hc
    refine lv_aload_n C.1 C.2.1 dX7_product_82 rfl (lv_at hl 1 rfl) ?_
    obtain ⟨p3, e3, hp3, h⟩ := ldP_ok h
    refine hr_getP C cf7 fH_RX7_19 hR ha0 e3 dX7_product_83 ?_
    refine lv_iload_n C.1 C.2.1 dX7_product_86 rfl (lv_at hl 0 rfl) ?_
    obtain ⟨S4, h4, h⟩ := ob_ok h
    refine hr_Vv (S' := S4) (As := [.int z0]) (rest := []) C cf4 (c_X4_add l E p3 z0 hp3 _ _ h4) yv_X4_add lk_RX7_50 rfl hp3 rfl rfl hl.1 (Nat.le_of_ble_eq_true rfl) (by omega) (by decide) hR (ho_A hR) dX7_product_87 (fun H locs hR => ?_)
    obtain ⟨v5, e5, h⟩ := le1_ok h
    refine lv_iinc (v := v5) (lv' := [(2, .int v5), (3, .int z0), (0, .ref (E.2.1 a0)), (1, .int x1)]) C.1 C.2.1 dX7_product_90 hl (k := 3) rfl (by rw [e5]; rfl) (by decide) rfl (fun ls hl => ?_)
    refine lv_goto (tgt := 12) C.1 C.2.1 dX7_product_93 (by decide) ?_
    exact hK12 x1 v5 S4 h _ _ _ hR (lv_sub hl [2, 3, 0] rfl)
  · replace h := if_t h hc
    refine lv_iconst (v := (0 : Int32)) C.1 C.2.1 dX7_product_80 (by decide) ?_
    exact ho_zret C hR (Or.inl rfl) h dX7_product_81
def f_X7_product_43 (G : Nat → Nat → Int32 → Hp → Option (Int32 × Hp)) (K12 : Int32 → Int32 → Hp → Option (Int32 × Hp)) (a0 : Nat) (x1 : Int32) (x2 : Int32) (S : Hp) : Option (Int32 × Hp) :=
  ob2 (f_X10_isSign (42 : Int32) S) (fun r1 S1 => if r1 = 0 then f_X7_product_64 G K12 a0 x1 x2 (10103 : Int32) S1 else f_X7_product_64 G K12 a0 x1 x2 (10102 : Int32) S1)
set_option maxHeartbeats 4000000 in
set_option maxRecDepth 100000 in
theorem w_X7_product_43 {p : Program} {l : Launch} {e : Env} {s : State} {m : MethodId} {args : Array Value} {below : List Frame} {meth : Method} {c : Code} {E : Ev} {S0 : Hp} {r : (Int32 × Hp)} (C : ho_I p s m args meth c RX7 cX7_product 4 (some .boolean)) {D : Nat} (hD : 8 ≤ D) (G : Nat → Nat → Int32 → Hp → Option (Int32 × Hp)) (hG : gH l E D G) (K12 : Int32 → Int32 → Hp → Option (Int32 × Hp)) (a0 : Nat) (ha0 : a0 ∈ yH.1 ∧ yH.2.1 a0 = (1, 7)) (hK12 : ∀ (y1 : Int32) (y2 : Int32) (S : Hp), K12 y1 y2 S = some r → ho_G p l e s m args below meth c yH E S0 (D + 1) 4 (some (.int r.1), r.2) 12 [(0, .ref (E.2.1 a0)), (1, .int y1), (2, .int y2)] [] S) :
    ∀ (x1 : Int32) (x2 : Int32) (S : Hp), f_X7_product_43 G K12 a0 x1 x2 S = some r → ho_G p l e s m args below meth c yH E S0 (D + 1) 4 (some (.int r.1), r.2) 43 [(0, .ref (E.2.1 a0)), (1, .int x1), (2, .int x2)] [] S := by
  intro x1 x2 S h H locs ls hR hl
  unfold f_X7_product_43 at h
  refine lv_aload_n C.1 C.2.1 dX7_product_43 rfl (lv_at hl 0 rfl) ?_
  refine ho_getR (a' := 10) C cf7 fH_RX7_15 hR ha0 (pH_7_0 ha0.2) dX7_product_44 ?_
  refine lv_bipush (v := (42 : Int32)) C.1 C.2.1 dX7_product_47 (by decide) ?_
  obtain ⟨r1, S1, h1, h⟩ := ob2_ok h
  refine hr_Vi (v := r1) (S' := S1) (As := [.int (42 : Int32)]) (rest := []) C cf10 (c_X10_isSign l E (42 : Int32) _ _ h1) yv_X10_isSign lk_RX7_60 rfl aH_10 rfl rfl hl.1 (Nat.le_of_ble_eq_true rfl) (by omega) (by decide) hR (ho_A hR) dX7_product_49 (fun H locs hR => ?_)
  refine lv_if_eq (tgt := 61) C.1 C.2.1 dX7_product_52 (by decide) (fun hc => ?_) (fun hc => ?_)
  · replace h := if_t h hc
    refine lv_sipush (v := (10103 : Int32)) C.1 C.2.1 dX7_product_61 (by decide) ?_
    exact w_X7_product_64 C hD G hG K12 a0 ha0 hK12 x1 x2 (10103 : Int32) S1 h _ _ _ hR (lv_sub hl [0, 1, 2] rfl)
  · replace h := if_f h hc
    refine lv_sipush (v := (10102 : Int32)) C.1 C.2.1 dX7_product_55 (by decide) ?_
    refine lv_goto (tgt := 64) C.1 C.2.1 dX7_product_58 (by decide) ?_
    exact w_X7_product_64 C hD G hG K12 a0 ha0 hK12 x1 x2 (10102 : Int32) S1 h _ _ _ hR (lv_sub hl [0, 1, 2] rfl)
def f_X7_product_12 (G : Nat → Nat → Int32 → Hp → Option (Int32 × Hp)) (a0 : Nat) : Nat → Int32 → Int32 → Hp → Option (Int32 × Hp)
  | 0, _, _, _ => none
  | k + 1, x1, x2, S => if (1600 : Int32) ≤ x2 then some ((1 : Int32), S) else ob2 (f_X10_isSign (42 : Int32) S) (fun r1 S1 => if r1 = 0 then ob2 (f_X10_isSign (47 : Int32) S1) (fun r2 S2 => if r2 = 0 then some ((1 : Int32), S2) else f_X7_product_43 G (f_X7_product_12 G a0 k) a0 x1 x2 S2) else f_X7_product_43 G (f_X7_product_12 G a0 k) a0 x1 x2 S1)
set_option maxHeartbeats 4000000 in
set_option maxRecDepth 100000 in
theorem w_X7_product_12 {p : Program} {l : Launch} {e : Env} {s : State} {m : MethodId} {args : Array Value} {below : List Frame} {meth : Method} {c : Code} {E : Ev} {S0 : Hp} {r : (Int32 × Hp)} (C : ho_I p s m args meth c RX7 cX7_product 4 (some .boolean)) {D : Nat} (hD : 8 ≤ D) (G : Nat → Nat → Int32 → Hp → Option (Int32 × Hp)) (hG : gH l E D G) (a0 : Nat) (ha0 : a0 ∈ yH.1 ∧ yH.2.1 a0 = (1, 7)) :
    ∀ (k : Nat) (x1 : Int32) (x2 : Int32) (S : Hp), f_X7_product_12 G a0 k x1 x2 S = some r → ho_G p l e s m args below meth c yH E S0 (D + 1) 4 (some (.int r.1), r.2) 12 [(0, .ref (E.2.1 a0)), (1, .int x1), (2, .int x2)] [] S := by
  intro k
  induction k with
  | zero =>
    intro x1 x2 S h
    exact absurd (show (none : Option (Int32 × Hp)) = some r from h) (by simp)
  | succ k ih =>
    intro x1 x2 S h H locs ls hR hl
    rw [f_X7_product_12] at h
    refine lv_iload_n C.1 C.2.1 dX7_product_12 rfl (lv_at hl 2 rfl) ?_
    refine lv_sipush (v := (1600 : Int32)) C.1 C.2.1 dX7_product_13 (by decide) ?_
    refine lv_icmp_ge (tgt := 96) C.1 C.2.1 dX7_product_16 (by decide) (fun hc => ?_) (fun hc => ?_)
    · replace h := if_t h hc
      refine lv_iconst (v := (1 : Int32)) C.1 C.2.1 dX7_product_96 (by decide) ?_
      exact ho_zret C hR (Or.inr rfl) h dX7_product_97
    · replace h := if_f h hc
      refine lv_aload_n C.1 C.2.1 dX7_product_19 rfl (lv_at hl 0 rfl) ?_
      refine ho_getR (a' := 10) C cf7 fH_RX7_15 hR ha0 (pH_7_0 ha0.2) dX7_product_20 ?_
      refine lv_bipush (v := (42 : Int32)) C.1 C.2.1 dX7_product_23 (by decide) ?_
      obtain ⟨r1, S1, h1, h⟩ := ob2_ok h
      refine hr_Vi (v := r1) (S' := S1) (As := [.int (42 : Int32)]) (rest := []) C cf10 (c_X10_isSign l E (42 : Int32) _ _ h1) yv_X10_isSign lk_RX7_60 rfl aH_10 rfl rfl hl.1 (Nat.le_of_ble_eq_true rfl) (by omega) (by decide) hR (ho_A hR) dX7_product_25 (fun H locs hR => ?_)
      refine lv_if_ne (tgt := 43) C.1 C.2.1 dX7_product_28 (by decide) (fun hc => ?_) (fun hc => ?_)
      · replace h := if_f h hc
        exact w_X7_product_43 C hD G hG (f_X7_product_12 G a0 k) a0 ha0 ih x1 x2 S1 h _ _ _ hR (lv_sub hl [0, 1, 2] rfl)
      · replace h := if_t h hc
        refine lv_aload_n C.1 C.2.1 dX7_product_31 rfl (lv_at hl 0 rfl) ?_
        refine ho_getR (a' := 10) C cf7 fH_RX7_15 hR ha0 (pH_7_0 ha0.2) dX7_product_32 ?_
        refine lv_bipush (v := (47 : Int32)) C.1 C.2.1 dX7_product_35 (by decide) ?_
        obtain ⟨r2, S2, h2, h⟩ := ob2_ok h
        refine hr_Vi (v := r2) (S' := S2) (As := [.int (47 : Int32)]) (rest := []) C cf10 (c_X10_isSign l E (47 : Int32) _ _ h2) yv_X10_isSign lk_RX7_60 rfl aH_10 rfl rfl hl.1 (Nat.le_of_ble_eq_true rfl) (by omega) (by decide) hR (ho_A hR) dX7_product_37 (fun H locs hR => ?_)
        refine lv_if_eq (tgt := 96) C.1 C.2.1 dX7_product_40 (by decide) (fun hc => ?_) (fun hc => ?_)
        · replace h := if_t h hc
          refine lv_iconst (v := (1 : Int32)) C.1 C.2.1 dX7_product_96 (by decide) ?_
          exact ho_zret C hR (Or.inr rfl) h dX7_product_97
        · replace h := if_f h hc
          exact w_X7_product_43 C hD G hG (f_X7_product_12 G a0 k) a0 ha0 ih x1 x2 S2 h _ _ _ hR (lv_sub hl [0, 1, 2] rfl)
def f_X7_product (G : Nat → Nat → Int32 → Hp → Option (Int32 × Hp)) (a0 : Nat) (x1 : Int32) (S : Hp) : Option (Int32 × Hp) :=
  ob2 (G 6 a0 x1 S) (fun r1 S1 => if r1 = 0 then some ((0 : Int32), S1) else f_X7_product_12 G a0 5000 x1 (0 : Int32) S1)
set_option maxHeartbeats 4000000 in
set_option maxRecDepth 100000 in
theorem c_X7_product (l : Launch) (E : Ev) (D : Nat) (hD : 8 ≤ D) (G : Nat → Nat → Int32 → Hp → Option (Int32 × Hp)) (hG : gH l E D G) (a0 : Nat) (x1 : Int32) (ha0 : a0 ∈ yH.1 ∧ yH.2.1 a0 = (1, 7)) (S : Hp) (r : (Int32 × Hp)) (h : f_X7_product G a0 x1 S = some r) : ho_M l yH E yX7_product cX7_product 4 (some .boolean) (D + 1) [.ref (E.2.1 a0), .int x1] S (some (.int r.1), r.2) := by
  refine ho_in (by decide) (Nat.le_of_ble_eq_true rfl) ?_
  intro p e s m args below meth c C hR ls hl
  have C : ho_I p s m args meth c RX7 cX7_product 4 (some .boolean) := C
  have hl : lv_has ls 4 [(0, .ref (E.2.1 a0)), (1, .int x1)] := hl
  unfold f_X7_product at h
  refine lv_aload_n C.1 C.2.1 dX7_product_0 rfl (lv_at hl 0 rfl) ?_
  refine lv_iload_n C.1 C.2.1 dX7_product_1 rfl (lv_at hl 1 rfl) ?_
  obtain ⟨r1, S1, h1, h⟩ := ob2_ok h
  refine hr_Vi (v := r1) (S' := S1) (As := [.int x1]) (rest := []) C cf7 ((hG 6 a0 x1 S _ ha0 h1).2.2.2.2.2.2.1 rfl) yv_X7_part lk_RX7_80 rfl ha0 rfl rfl hl.1 (Nat.le_of_ble_eq_true rfl) (by omega) (by decide) hR (ho_A hR) dX7_product_2 (fun H locs hR => ?_)
  refine lv_if_ne (tgt := 10) C.1 C.2.1 dX7_product_5 (by decide) (fun hc => ?_) (fun hc => ?_)
  · replace h := if_f h hc
    refine lv_iconst (v := (0 : Int32)) C.1 C.2.1 dX7_product_10 (by decide) ?_
    refine lv_istore_n (lv' := [(2, .int (0 : Int32)), (0, .ref (E.2.1 a0)), (1, .int x1)]) C.1 C.2.1 dX7_product_11 rfl hl (by decide) rfl (fun ls hl => ?_)
    exact w_X7_product_12 C hD G hG a0 ha0 5000 x1 (0 : Int32) S1 h _ _ _ hR (lv_sub hl [1, 2, 0] rfl)
  · replace h := if_t h hc
    refine lv_iconst (v := (0 : Int32)) C.1 C.2.1 dX7_product_8 (by decide) ?_
    exact ho_zret C hR (Or.inl rfl) h dX7_product_9
theorem dX7_part_0 : decode cX7_part 0 = .ok (.aload_n 0, 1) := by decide +kernel
theorem dX7_part_1 : decode cX7_part 1 = .ok (.getfield 15, 3) := by decide +kernel
theorem dX7_part_4 : decode cX7_part 4 = .ok (.getfield 83, 3) := by decide +kernel
theorem dX7_part_7 : decode cX7_part 7 = .ok (.iconst 2, 1) := by decide +kernel
theorem dX7_part_8 : decode cX7_part 8 = .ok (.if_icmp .ne 35, 3) := by decide +kernel
theorem dX7_part_11 : decode cX7_part 11 = .ok (.aload_n 0, 1) := by decide +kernel
theorem dX7_part_12 : decode cX7_part 12 = .ok (.getfield 15, 3) := by decide +kernel
theorem dX7_part_15 : decode cX7_part 15 = .ok (.iconst 0, 1) := by decide +kernel
theorem dX7_part_16 : decode cX7_part 16 = .ok (.sipush 9999, 3) := by decide +kernel
theorem dX7_part_19 : decode cX7_part 19 = .ok (.invokevirtual 86, 3) := by decide +kernel
theorem dX7_part_22 : decode cX7_part 22 = .ok (.ifCond .ne 5, 3) := by decide +kernel
theorem dX7_part_25 : decode cX7_part 25 = .ok (.iconst 0, 1) := by decide +kernel
theorem dX7_part_26 : decode cX7_part 26 = .ok (.ireturn, 1) := by decide +kernel
theorem dX7_part_27 : decode cX7_part 27 = .ok (.aload_n 0, 1) := by decide +kernel
theorem dX7_part_28 : decode cX7_part 28 = .ok (.getfield 19, 3) := by decide +kernel
theorem dX7_part_31 : decode cX7_part 31 = .ok (.aload_n 0, 1) := by decide +kernel
theorem dX7_part_32 : decode cX7_part 32 = .ok (.getfield 15, 3) := by decide +kernel
theorem dX7_part_35 : decode cX7_part 35 = .ok (.getfield 89, 3) := by decide +kernel
theorem dX7_part_38 : decode cX7_part 38 = .ok (.invokevirtual 50, 3) := by decide +kernel
theorem dX7_part_41 : decode cX7_part 41 = .ok (.iconst 1, 1) := by decide +kernel
theorem dX7_part_42 : decode cX7_part 42 = .ok (.ireturn, 1) := by decide +kernel
theorem dX7_part_43 : decode cX7_part 43 = .ok (.aload_n 0, 1) := by decide +kernel
theorem dX7_part_44 : decode cX7_part 44 = .ok (.getfield 15, 3) := by decide +kernel
theorem dX7_part_47 : decode cX7_part 47 = .ok (.bipush 40, 2) := by decide +kernel
theorem dX7_part_49 : decode cX7_part 49 = .ok (.invokevirtual 60, 3) := by decide +kernel
theorem dX7_part_52 : decode cX7_part 52 = .ok (.ifCond .eq 39, 3) := by decide +kernel
theorem dX7_part_55 : decode cX7_part 55 = .ok (.aload_n 0, 1) := by decide +kernel
theorem dX7_part_56 : decode cX7_part 56 = .ok (.iload_n 1, 1) := by decide +kernel
theorem dX7_part_57 : decode cX7_part 57 = .ok (.invokevirtual 57, 3) := by decide +kernel
theorem dX7_part_60 : decode cX7_part 60 = .ok (.ifCond .eq 29, 3) := by decide +kernel
theorem dX7_part_63 : decode cX7_part 63 = .ok (.aload_n 0, 1) := by decide +kernel
theorem dX7_part_64 : decode cX7_part 64 = .ok (.iload_n 1, 1) := by decide +kernel
theorem dX7_part_65 : decode cX7_part 65 = .ok (.iconst 1, 1) := by decide +kernel
theorem dX7_part_66 : decode cX7_part 66 = .ok (.iadd, 1) := by decide +kernel
theorem dX7_part_67 : decode cX7_part 67 = .ok (.invokevirtual 27, 3) := by decide +kernel
theorem dX7_part_70 : decode cX7_part 70 = .ok (.ifCond .eq 19, 3) := by decide +kernel
theorem dX7_part_73 : decode cX7_part 73 = .ok (.aload_n 0, 1) := by decide +kernel
theorem dX7_part_74 : decode cX7_part 74 = .ok (.getfield 15, 3) := by decide +kernel
theorem dX7_part_77 : decode cX7_part 77 = .ok (.bipush 41, 2) := by decide +kernel
theorem dX7_part_79 : decode cX7_part 79 = .ok (.invokevirtual 64, 3) := by decide +kernel
theorem dX7_part_82 : decode cX7_part 82 = .ok (.ifCond .eq 7, 3) := by decide +kernel
theorem dX7_part_85 : decode cX7_part 85 = .ok (.iconst 1, 1) := by decide +kernel
theorem dX7_part_86 : decode cX7_part 86 = .ok (.goto 4, 3) := by decide +kernel
theorem dX7_part_89 : decode cX7_part 89 = .ok (.iconst 0, 1) := by decide +kernel
theorem dX7_part_90 : decode cX7_part 90 = .ok (.ireturn, 1) := by decide +kernel
theorem dX7_part_91 : decode cX7_part 91 = .ok (.aload_n 0, 1) := by decide +kernel
theorem dX7_part_92 : decode cX7_part 92 = .ok (.getfield 15, 3) := by decide +kernel
theorem dX7_part_95 : decode cX7_part 95 = .ok (.bipush 27, 2) := by decide +kernel
theorem dX7_part_97 : decode cX7_part 97 = .ok (.invokevirtual 44, 3) := by decide +kernel
theorem dX7_part_100 : decode cX7_part 100 = .ok (.ifCond .ne 15, 3) := by decide +kernel
theorem dX7_part_103 : decode cX7_part 103 = .ok (.aload_n 0, 1) := by decide +kernel
theorem dX7_part_104 : decode cX7_part 104 = .ok (.getfield 15, 3) := by decide +kernel
theorem dX7_part_107 : decode cX7_part 107 = .ok (.bipush 28, 2) := by decide +kernel
theorem dX7_part_109 : decode cX7_part 109 = .ok (.invokevirtual 44, 3) := by decide +kernel
theorem dX7_part_112 : decode cX7_part 112 = .ok (.ifCond .eq 9, 3) := by decide +kernel
theorem dX7_part_115 : decode cX7_part 115 = .ok (.aload_n 0, 1) := by decide +kernel
theorem dX7_part_116 : decode cX7_part 116 = .ok (.iload_n 1, 1) := by decide +kernel
theorem dX7_part_117 : decode cX7_part 117 = .ok (.invokevirtual 92, 3) := by decide +kernel
theorem dX7_part_120 : decode cX7_part 120 = .ok (.ireturn, 1) := by decide +kernel
theorem dX7_part_121 : decode cX7_part 121 = .ok (.aload_n 0, 1) := by decide +kernel
theorem dX7_part_122 : decode cX7_part 122 = .ok (.invokevirtual 95, 3) := by decide +kernel
theorem dX7_part_125 : decode cX7_part 125 = .ok (.ifCond .ne 19, 3) := by decide +kernel
theorem dX7_part_128 : decode cX7_part 128 = .ok (.aload_n 0, 1) := by decide +kernel
theorem dX7_part_129 : decode cX7_part 129 = .ok (.getfield 15, 3) := by decide +kernel
theorem dX7_part_132 : decode cX7_part 132 = .ok (.iconst 1, 1) := by decide +kernel
theorem dX7_part_133 : decode cX7_part 133 = .ok (.aload_n 0, 1) := by decide +kernel
theorem dX7_part_134 : decode cX7_part 134 = .ok (.getfield 15, 3) := by decide +kernel
theorem dX7_part_137 : decode cX7_part 137 = .ok (.getfield 70, 3) := by decide +kernel
theorem dX7_part_140 : decode cX7_part 140 = .ok (.invokevirtual 73, 3) := by decide +kernel
theorem dX7_part_143 : decode cX7_part 143 = .ok (.ireturn, 1) := by decide +kernel
theorem dX7_part_144 : decode cX7_part 144 = .ok (.aload_n 0, 1) := by decide +kernel
theorem dX7_part_145 : decode cX7_part 145 = .ok (.getfield 15, 3) := by decide +kernel
theorem dX7_part_148 : decode cX7_part 148 = .ok (.bipush 22, 2) := by decide +kernel
theorem dX7_part_150 : decode cX7_part 150 = .ok (.invokevirtual 44, 3) := by decide +kernel
theorem dX7_part_153 : decode cX7_part 153 = .ok (.ifCond .eq 35, 3) := by decide +kernel
theorem dX7_part_156 : decode cX7_part 156 = .ok (.aload_n 0, 1) := by decide +kernel
theorem dX7_part_157 : decode cX7_part 157 = .ok (.iload_n 1, 1) := by decide +kernel
theorem dX7_part_158 : decode cX7_part 158 = .ok (.invokevirtual 57, 3) := by decide +kernel
theorem dX7_part_161 : decode cX7_part 161 = .ok (.ifCond .eq 13, 3) := by decide +kernel
theorem dX7_part_164 : decode cX7_part 164 = .ok (.aload_n 0, 1) := by decide +kernel
theorem dX7_part_165 : decode cX7_part 165 = .ok (.iload_n 1, 1) := by decide +kernel
theorem dX7_part_166 : decode cX7_part 166 = .ok (.iconst 1, 1) := by decide +kernel
theorem dX7_part_167 : decode cX7_part 167 = .ok (.iadd, 1) := by decide +kernel
theorem dX7_part_168 : decode cX7_part 168 = .ok (.invokevirtual 80, 3) := by decide +kernel
theorem dX7_part_171 : decode cX7_part 171 = .ok (.ifCond .ne 5, 3) := by decide +kernel
theorem dX7_part_174 : decode cX7_part 174 = .ok (.iconst 0, 1) := by decide +kernel
theorem dX7_part_175 : decode cX7_part 175 = .ok (.ireturn, 1) := by decide +kernel
theorem dX7_part_176 : decode cX7_part 176 = .ok (.aload_n 0, 1) := by decide +kernel
theorem dX7_part_177 : decode cX7_part 177 = .ok (.getfield 19, 3) := by decide +kernel
theorem dX7_part_180 : decode cX7_part 180 = .ok (.sipush 10112, 3) := by decide +kernel
theorem dX7_part_183 : decode cX7_part 183 = .ok (.invokevirtual 50, 3) := by decide +kernel
theorem dX7_part_186 : decode cX7_part 186 = .ok (.iconst 1, 1) := by decide +kernel
theorem dX7_part_187 : decode cX7_part 187 = .ok (.ireturn, 1) := by decide +kernel
theorem dX7_part_188 : decode cX7_part 188 = .ok (.aload_n 0, 1) := by decide +kernel
theorem dX7_part_189 : decode cX7_part 189 = .ok (.getfield 19, 3) := by decide +kernel
theorem dX7_part_192 : decode cX7_part 192 = .ok (.sipush 10000, 3) := by decide +kernel
theorem dX7_part_195 : decode cX7_part 195 = .ok (.aload_n 0, 1) := by decide +kernel
theorem dX7_part_196 : decode cX7_part 196 = .ok (.getfield 15, 3) := by decide +kernel
theorem dX7_part_199 : decode cX7_part 199 = .ok (.getfield 99, 3) := by decide +kernel
theorem dX7_part_202 : decode cX7_part 202 = .ok (.iadd, 1) := by decide +kernel
theorem dX7_part_203 : decode cX7_part 203 = .ok (.invokevirtual 50, 3) := by decide +kernel
theorem dX7_part_206 : decode cX7_part 206 = .ok (.aload_n 0, 1) := by decide +kernel
theorem dX7_part_207 : decode cX7_part 207 = .ok (.getfield 15, 3) := by decide +kernel
theorem dX7_part_210 : decode cX7_part 210 = .ok (.invokevirtual 47, 3) := by decide +kernel
theorem dX7_part_213 : decode cX7_part 213 = .ok (.iconst 1, 1) := by decide +kernel
theorem dX7_part_214 : decode cX7_part 214 = .ok (.ireturn, 1) := by decide +kernel
def f_X7_part_115 (G : Nat → Nat → Int32 → Hp → Option (Int32 × Hp)) (a0 : Nat) (x1 : Int32) (S : Hp) : Option (Int32 × Hp) :=
  ob2 (G 7 a0 x1 S) (fun r1 S1 => tr r1 (some (r1, S1)))
set_option maxHeartbeats 4000000 in
set_option maxRecDepth 100000 in
theorem w_X7_part_115 {p : Program} {l : Launch} {e : Env} {s : State} {m : MethodId} {args : Array Value} {below : List Frame} {meth : Method} {c : Code} {E : Ev} {S0 : Hp} {r : (Int32 × Hp)} (C : ho_I p s m args meth c RX7 cX7_part 2 (some .boolean)) {D : Nat} (hD : 8 ≤ D) (G : Nat → Nat → Int32 → Hp → Option (Int32 × Hp)) (hG : gH l E D G) (a0 : Nat) (ha0 : a0 ∈ yH.1 ∧ yH.2.1 a0 = (1, 7)) :
    ∀ (x1 : Int32) (S : Hp), f_X7_part_115 G a0 x1 S = some r → ho_G p l e s m args below meth c yH E S0 (D + 1) 2 (some (.int r.1), r.2) 115 [(0, .ref (E.2.1 a0)), (1, .int x1)] [] S := by
  intro x1 S h H locs ls hR hl
  unfold f_X7_part_115 at h
  refine lv_aload_n C.1 C.2.1 dX7_part_115 rfl (lv_at hl 0 rfl) ?_
  refine lv_iload_n C.1 C.2.1 dX7_part_116 rfl (lv_at hl 1 rfl) ?_
  obtain ⟨r1, S1, h1, h⟩ := ob2_ok h
  refine hr_Vi (v := r1) (S' := S1) (As := [.int x1]) (rest := []) C cf7 ((hG 7 a0 x1 S _ ha0 h1).2.2.2.2.2.2.2 rfl) yv_X7_oneOfTwo lk_RX7_92 rfl ha0 rfl rfl hl.1 (Nat.le_of_ble_eq_true rfl) (by omega) (by decide) hR (ho_A hR) dX7_part_117 (fun H locs hR => ?_)
  obtain ⟨hz, h⟩ := tr_ok h
  exact ho_zret C hR hz h dX7_part_120
def f_X7_part (G : Nat → Nat → Int32 → Hp → Option (Int32 × Hp)) (a0 : Nat) (x1 : Int32) (S : Hp) : Option (Int32 × Hp) :=
  if (S.1 10 4) = (2 : Int32) then ob2 (f_X10_takeNumber (0 : Int32) (9999 : Int32) S) (fun r17 S17 => if r17 = 0 then some ((0 : Int32), S17) else ldP yH S17 a0 1 4 (fun p18 => ob (f_X4_add p18 (S17.1 10 8) S17) (fun S19 => some ((1 : Int32), S19)))) else ob2 (f_X10_isSign (40 : Int32) S) (fun r1 S1 => if r1 = 0 then ob2 (f_X10_isWord (27 : Int32) S1) (fun r2 S2 => if r2 = 0 then ob2 (f_X10_isWord (28 : Int32) S2) (fun r3 S3 => if r3 = 0 then ob2 (f_X7_isPart a0 S3) (fun r4 S4 => if r4 = 0 then ob2 (f_X10_wrong (1 : Int32) (S4.1 10 5) S4) (fun r13 S13 => tr r13 (some (r13, S13))) else ob2 (f_X10_isWord (22 : Int32) S4) (fun r5 S5 => if r5 = 0 then ldP yH S5 a0 1 4 (fun p6 => ob (f_X4_add p6 ((10000 : Int32) + (S5.1 10 6)) S5) (fun S7 => ob (f_X10_next S7) (fun S8 => some ((1 : Int32), S8)))) else ob2 (f_X7_opens a0 x1 S5) (fun r9 S9 => if r9 = 0 then some ((0 : Int32), S9) else ob2 (G 6 a0 (x1 + (1 : Int32)) S9) (fun r10 S10 => if r10 = 0 then some ((0 : Int32), S10) else ldP yH S10 a0 1 4 (fun p11 => ob (f_X4_add p11 (10112 : Int32) S10) (fun S12 => some ((1 : Int32), S12))))))) else f_X7_part_115 G a0 x1 S3) else f_X7_part_115 G a0 x1 S2) else ob2 (f_X7_opens a0 x1 S1) (fun r14 S14 => if r14 = 0 then some ((0 : Int32), S14) else ob2 (G 4 a0 (x1 + (1 : Int32)) S14) (fun r15 S15 => if r15 = 0 then some ((0 : Int32), S15) else ob2 (f_X10_takeSign (41 : Int32) S15) (fun r16 S16 => if r16 = 0 then some ((0 : Int32), S16) else some ((1 : Int32), S16)))))
set_option maxHeartbeats 4000000 in
set_option maxRecDepth 100000 in
theorem c_X7_part (l : Launch) (E : Ev) (D : Nat) (hD : 8 ≤ D) (G : Nat → Nat → Int32 → Hp → Option (Int32 × Hp)) (hG : gH l E D G) (a0 : Nat) (x1 : Int32) (ha0 : a0 ∈ yH.1 ∧ yH.2.1 a0 = (1, 7)) (S : Hp) (r : (Int32 × Hp)) (h : f_X7_part G a0 x1 S = some r) : ho_M l yH E yX7_part cX7_part 2 (some .boolean) (D + 1) [.ref (E.2.1 a0), .int x1] S (some (.int r.1), r.2) := by
  refine ho_in (by decide) (Nat.le_of_ble_eq_true rfl) ?_
  intro p e s m args below meth c C hR ls hl
  have C : ho_I p s m args meth c RX7 cX7_part 2 (some .boolean) := C
  have hl : lv_has ls 2 [(0, .ref (E.2.1 a0)), (1, .int x1)] := hl
  unfold f_X7_part at h
  refine lv_aload_n C.1 C.2.1 dX7_part_0 rfl (lv_at hl 0 rfl) ?_
  refine ho_getR (a' := 10) C cf7 fH_RX7_15 hR ha0 (pH_7_0 ha0.2) dX7_part_1 ?_
  refine ho_getI C cf10 fH_RX7_83 hR aH_10 dX7_part_4 ?_
  refine lv_iconst (v := (2 : Int32)) C.1 C.2.1 dX7_part_7 (by decide) ?_
  refine lv_icmp_ne (tgt := 43) C.1 C.2.1 dX7_part_8 (by decide) (fun hc => ?_) (fun hc => ?_)
  · replace h := if_f h hc
    refine lv_aload_n C.1 C.2.1 dX7_part_43 rfl (lv_at hl 0 rfl) ?_
    refine ho_getR (a' := 10) C cf7 fH_RX7_15 hR ha0 (pH_7_0 ha0.2) dX7_part_44 ?_
    refine lv_bipush (v := (40 : Int32)) C.1 C.2.1 dX7_part_47 (by decide) ?_
    obtain ⟨r1, S1, h1, h⟩ := ob2_ok h
    refine hr_Vi (v := r1) (S' := S1) (As := [.int (40 : Int32)]) (rest := []) C cf10 (c_X10_isSign l E (40 : Int32) _ _ h1) yv_X10_isSign lk_RX7_60 rfl aH_10 rfl rfl hl.1 (Nat.le_of_ble_eq_true rfl) (by omega) (by decide) hR (ho_A hR) dX7_part_49 (fun H locs hR => ?_)
    refine lv_if_eq (tgt := 91) C.1 C.2.1 dX7_part_52 (by decide) (fun hc => ?_) (fun hc => ?_)
    · replace h := if_t h hc
      refine lv_aload_n C.1 C.2.1 dX7_part_91 rfl (lv_at hl 0 rfl) ?_
      refine ho_getR (a' := 10) C cf7 fH_RX7_15 hR ha0 (pH_7_0 ha0.2) dX7_part_92 ?_
      refine lv_bipush (v := (27 : Int32)) C.1 C.2.1 dX7_part_95 (by decide) ?_
      obtain ⟨r2, S2, h2, h⟩ := ob2_ok h
      refine hr_Vi (v := r2) (S' := S2) (As := [.int (27 : Int32)]) (rest := []) C cf10 (c_X10_isWord l E (27 : Int32) _ _ h2) yv_X10_isWord lk_RX7_44 rfl aH_10 rfl rfl hl.1 (Nat.le_of_ble_eq_true rfl) (by omega) (by decide) hR (ho_A hR) dX7_part_97 (fun H locs hR => ?_)
      refine lv_if_ne (tgt := 115) C.1 C.2.1 dX7_part_100 (by decide) (fun hc => ?_) (fun hc => ?_)
      · replace h := if_f h hc
        exact w_X7_part_115 C hD G hG a0 ha0 x1 S2 h _ _ _ hR (lv_sub hl [0, 1] rfl)
      · replace h := if_t h hc
        refine lv_aload_n C.1 C.2.1 dX7_part_103 rfl (lv_at hl 0 rfl) ?_
        refine ho_getR (a' := 10) C cf7 fH_RX7_15 hR ha0 (pH_7_0 ha0.2) dX7_part_104 ?_
        refine lv_bipush (v := (28 : Int32)) C.1 C.2.1 dX7_part_107 (by decide) ?_
        obtain ⟨r3, S3, h3, h⟩ := ob2_ok h
        refine hr_Vi (v := r3) (S' := S3) (As := [.int (28 : Int32)]) (rest := []) C cf10 (c_X10_isWord l E (28 : Int32) _ _ h3) yv_X10_isWord lk_RX7_44 rfl aH_10 rfl rfl hl.1 (Nat.le_of_ble_eq_true rfl) (by omega) (by decide) hR (ho_A hR) dX7_part_109 (fun H locs hR => ?_)
        refine lv_if_eq (tgt := 121) C.1 C.2.1 dX7_part_112 (by decide) (fun hc => ?_) (fun hc => ?_)
        · replace h := if_t h hc
          refine lv_aload_n C.1 C.2.1 dX7_part_121 rfl (lv_at hl 0 rfl) ?_
          obtain ⟨r4, S4, h4, h⟩ := ob2_ok h
          refine hr_Vi (v := r4) (S' := S4) (As := []) (rest := []) C cf7 (c_X7_isPart l E a0 ha0 _ _ h4) yv_X7_isPart lk_RX7_95 rfl ha0 rfl rfl hl.1 (Nat.le_of_ble_eq_true rfl) (by omega) (by decide) hR (ho_A hR) dX7_part_122 (fun H locs hR => ?_)
          refine lv_if_ne (tgt := 144) C.1 C.2.1 dX7_part_125 (by decide) (fun hc => ?_) (fun hc => ?_)
          · replace h := if_f h hc
            refine lv_aload_n C.1 C.2.1 dX7_part_144 rfl (lv_at hl 0 rfl) ?_
            refine ho_getR (a' := 10) C cf7 fH_RX7_15 hR ha0 (pH_7_0 ha0.2) dX7_part_145 ?_
            refine lv_bipush (v := (22 : Int32)) C.1 C.2.1 dX7_part_148 (by decide) ?_
            obtain ⟨r5, S5, h5, h⟩ := ob2_ok h
            refine hr_Vi (v := r5) (S' := S5) (As := [.int (22 : Int32)]) (rest := []) C cf10 (c_X10_isWord l E (22 : Int32) _ _ h5) yv_X10_isWord lk_RX7_44 rfl aH_10 rfl rfl hl.1 (Nat.le_of_ble_eq_true rfl) (by omega) (by decide) hR (ho_A hR) dX7_part_150 (fun H locs hR => ?_)
            refine lv_if_eq (tgt := 188) C.1 C.2.1 dX7_part_153 (by decide) (fun hc => ?_) (fun hc => ?_)
            · replace h := if_t h hc
              refine lv_aload_n C.1 C.2.1 dX7_part_188 rfl (lv_at hl 0 rfl) ?_
              obtain ⟨p6, e6, hp6, h⟩ := ldP_ok h
              refine hr_getP C cf7 fH_RX7_19 hR ha0 e6 dX7_part_189 ?_
              refine lv_sipush (v := (10000 : Int32)) C.1 C.2.1 dX7_part_192 (by decide) ?_
              refine lv_aload_n C.1 C.2.1 dX7_part_195 rfl (lv_at hl 0 rfl) ?_
              refine ho_getR (a' := 10) C cf7 fH_RX7_15 hR ha0 (pH_7_0 ha0.2) dX7_part_196 ?_
              refine ho_getI C cf10 fH_RX7_99 hR aH_10 dX7_part_199 ?_
              refine lv_iadd C.1 C.2.1 dX7_part_202 ?_
              obtain ⟨S7, h7, h⟩ := ob_ok h
              refine hr_Vv (S' := S7) (As := [.int ((10000 : Int32) + (S5.1 10 6))]) (rest := []) C cf4 (c_X4_add l E p6 ((10000 : Int32) + (S5.1 10 6)) hp6 _ _ h7) yv_X4_add lk_RX7_50 rfl hp6 rfl rfl hl.1 (Nat.le_of_ble_eq_true rfl) (by omega) (by decide) hR (ho_A hR) dX7_part_203 (fun H locs hR => ?_)
              refine lv_aload_n C.1 C.2.1 dX7_part_206 rfl (lv_at hl 0 rfl) ?_
              refine ho_getR (a' := 10) C cf7 fH_RX7_15 hR ha0 (pH_7_0 ha0.2) dX7_part_207 ?_
              obtain ⟨S8, h8, h⟩ := ob_ok h
              refine hr_Vv (S' := S8) (As := []) (rest := []) C cf10 (c_X10_next l E _ _ h8) yv_X10_next lk_RX7_47 rfl aH_10 rfl rfl hl.1 (Nat.le_of_ble_eq_true rfl) (by omega) (by decide) hR (ho_A hR) dX7_part_210 (fun H locs hR => ?_)
              refine lv_iconst (v := (1 : Int32)) C.1 C.2.1 dX7_part_213 (by decide) ?_
              exact ho_zret C hR (Or.inr rfl) h dX7_part_214
            · replace h := if_f h hc
              refine lv_aload_n C.1 C.2.1 dX7_part_156 rfl (lv_at hl 0 rfl) ?_
              refine lv_iload_n C.1 C.2.1 dX7_part_157 rfl (lv_at hl 1 rfl) ?_
              obtain ⟨r9, S9, h9, h⟩ := ob2_ok h
              refine hr_Vi (v := r9) (S' := S9) (As := [.int x1]) (rest := []) C cf7 (c_X7_opens l E a0 x1 ha0 _ _ h9) yv_X7_opens lk_RX7_57 rfl ha0 rfl rfl hl.1 (Nat.le_of_ble_eq_true rfl) (by omega) (by decide) hR (ho_A hR) dX7_part_158 (fun H locs hR => ?_)
              refine lv_if_eq (tgt := 174) C.1 C.2.1 dX7_part_161 (by decide) (fun hc => ?_) (fun hc => ?_)
              · replace h := if_t h hc
                refine lv_iconst (v := (0 : Int32)) C.1 C.2.1 dX7_part_174 (by decide) ?_
                exact ho_zret C hR (Or.inl rfl) h dX7_part_175
              · replace h := if_f h hc
                refine lv_aload_n C.1 C.2.1 dX7_part_164 rfl (lv_at hl 0 rfl) ?_
                refine lv_iload_n C.1 C.2.1 dX7_part_165 rfl (lv_at hl 1 rfl) ?_
                refine lv_iconst (v := (1 : Int32)) C.1 C.2.1 dX7_part_166 (by decide) ?_
                refine lv_iadd C.1 C.2.1 dX7_part_167 ?_
                obtain ⟨r10, S10, h10, h⟩ := ob2_ok h
                refine hr_Vi (v := r10) (S' := S10) (As := [.int (x1 + (1 : Int32))]) (rest := []) C cf7 ((hG 6 a0 (x1 + (1 : Int32)) S9 _ ha0 h10).2.2.2.2.2.2.1 rfl) yv_X7_part lk_RX7_80 rfl ha0 rfl rfl hl.1 (Nat.le_of_ble_eq_true rfl) (by omega) (by decide) hR (ho_A hR) dX7_part_168 (fun H locs hR => ?_)
                refine lv_if_ne (tgt := 176) C.1 C.2.1 dX7_part_171 (by decide) (fun hc => ?_) (fun hc => ?_)
                · replace h := if_f h hc
                  refine lv_aload_n C.1 C.2.1 dX7_part_176 rfl (lv_at hl 0 rfl) ?_
                  obtain ⟨p11, e11, hp11, h⟩ := ldP_ok h
                  refine hr_getP C cf7 fH_RX7_19 hR ha0 e11 dX7_part_177 ?_
                  refine lv_sipush (v := (10112 : Int32)) C.1 C.2.1 dX7_part_180 (by decide) ?_
                  obtain ⟨S12, h12, h⟩ := ob_ok h
                  refine hr_Vv (S' := S12) (As := [.int (10112 : Int32)]) (rest := []) C cf4 (c_X4_add l E p11 (10112 : Int32) hp11 _ _ h12) yv_X4_add lk_RX7_50 rfl hp11 rfl rfl hl.1 (Nat.le_of_ble_eq_true rfl) (by omega) (by decide) hR (ho_A hR) dX7_part_183 (fun H locs hR => ?_)
                  refine lv_iconst (v := (1 : Int32)) C.1 C.2.1 dX7_part_186 (by decide) ?_
                  exact ho_zret C hR (Or.inr rfl) h dX7_part_187
                · replace h := if_t h hc
                  refine lv_iconst (v := (0 : Int32)) C.1 C.2.1 dX7_part_174 (by decide) ?_
                  exact ho_zret C hR (Or.inl rfl) h dX7_part_175
          · replace h := if_t h hc
            refine lv_aload_n C.1 C.2.1 dX7_part_128 rfl (lv_at hl 0 rfl) ?_
            refine ho_getR (a' := 10) C cf7 fH_RX7_15 hR ha0 (pH_7_0 ha0.2) dX7_part_129 ?_
            refine lv_iconst (v := (1 : Int32)) C.1 C.2.1 dX7_part_132 (by decide) ?_
            refine lv_aload_n C.1 C.2.1 dX7_part_133 rfl (lv_at hl 0 rfl) ?_
            refine ho_getR (a' := 10) C cf7 fH_RX7_15 hR ha0 (pH_7_0 ha0.2) dX7_part_134 ?_
            refine ho_getI C cf10 fH_RX7_70 hR aH_10 dX7_part_137 ?_
            obtain ⟨r13, S13, h13, h⟩ := ob2_ok h
            refine hr_Vi (v := r13) (S' := S13) (As := [.int (1 : Int32), .int (S4.1 10 5)]) (rest := []) C cf10 (c_X10_wrong l E (1 : Int32) (S4.1 10 5) _ _ h13) yv_X10_wrong lk_RX7_73 rfl aH_10 rfl rfl hl.1 (Nat.le_of_ble_eq_true rfl) (by omega) (by decide) hR (ho_A hR) dX7_part_140 (fun H locs hR => ?_)
            obtain ⟨hz, h⟩ := tr_ok h
            exact ho_zret C hR hz h dX7_part_143
        · replace h := if_f h hc
          exact w_X7_part_115 C hD G hG a0 ha0 x1 S3 h _ _ _ hR (lv_sub hl [0, 1] rfl)
    · replace h := if_f h hc
      refine lv_aload_n C.1 C.2.1 dX7_part_55 rfl (lv_at hl 0 rfl) ?_
      refine lv_iload_n C.1 C.2.1 dX7_part_56 rfl (lv_at hl 1 rfl) ?_
      obtain ⟨r14, S14, h14, h⟩ := ob2_ok h
      refine hr_Vi (v := r14) (S' := S14) (As := [.int x1]) (rest := []) C cf7 (c_X7_opens l E a0 x1 ha0 _ _ h14) yv_X7_opens lk_RX7_57 rfl ha0 rfl rfl hl.1 (Nat.le_of_ble_eq_true rfl) (by omega) (by decide) hR (ho_A hR) dX7_part_57 (fun H locs hR => ?_)
      refine lv_if_eq (tgt := 89) C.1 C.2.1 dX7_part_60 (by decide) (fun hc => ?_) (fun hc => ?_)
      · replace h := if_t h hc
        refine lv_iconst (v := (0 : Int32)) C.1 C.2.1 dX7_part_89 (by decide) ?_
        exact ho_zret C hR (Or.inl rfl) h dX7_part_90
      · replace h := if_f h hc
        refine lv_aload_n C.1 C.2.1 dX7_part_63 rfl (lv_at hl 0 rfl) ?_
        refine lv_iload_n C.1 C.2.1 dX7_part_64 rfl (lv_at hl 1 rfl) ?_
        refine lv_iconst (v := (1 : Int32)) C.1 C.2.1 dX7_part_65 (by decide) ?_
        refine lv_iadd C.1 C.2.1 dX7_part_66 ?_
        obtain ⟨r15, S15, h15, h⟩ := ob2_ok h
        refine hr_Vi (v := r15) (S' := S15) (As := [.int (x1 + (1 : Int32))]) (rest := []) C cf7 ((hG 4 a0 (x1 + (1 : Int32)) S14 _ ha0 h15).2.2.2.2.1 rfl) yv_X7_sum lk_RX7_27 rfl ha0 rfl rfl hl.1 (Nat.le_of_ble_eq_true rfl) (by omega) (by decide) hR (ho_A hR) dX7_part_67 (fun H locs hR => ?_)
        refine lv_if_eq (tgt := 89) C.1 C.2.1 dX7_part_70 (by decide) (fun hc => ?_) (fun hc => ?_)
        · replace h := if_t h hc
          refine lv_iconst (v := (0 : Int32)) C.1 C.2.1 dX7_part_89 (by decide) ?_
          exact ho_zret C hR (Or.inl rfl) h dX7_part_90
        · replace h := if_f h hc
          refine lv_aload_n C.1 C.2.1 dX7_part_73 rfl (lv_at hl 0 rfl) ?_
          refine ho_getR (a' := 10) C cf7 fH_RX7_15 hR ha0 (pH_7_0 ha0.2) dX7_part_74 ?_
          refine lv_bipush (v := (41 : Int32)) C.1 C.2.1 dX7_part_77 (by decide) ?_
          obtain ⟨r16, S16, h16, h⟩ := ob2_ok h
          refine hr_Vi (v := r16) (S' := S16) (As := [.int (41 : Int32)]) (rest := []) C cf10 (c_X10_takeSign l E (41 : Int32) _ _ h16) yv_X10_takeSign lk_RX7_64 rfl aH_10 rfl rfl hl.1 (Nat.le_of_ble_eq_true rfl) (by omega) (by decide) hR (ho_A hR) dX7_part_79 (fun H locs hR => ?_)
          refine lv_if_eq (tgt := 89) C.1 C.2.1 dX7_part_82 (by decide) (fun hc => ?_) (fun hc => ?_)
          · replace h := if_t h hc
            refine lv_iconst (v := (0 : Int32)) C.1 C.2.1 dX7_part_89 (by decide) ?_
            exact ho_zret C hR (Or.inl rfl) h dX7_part_90
          · replace h := if_f h hc
            refine lv_iconst (v := (1 : Int32)) C.1 C.2.1 dX7_part_85 (by decide) ?_
            refine lv_goto (tgt := 90) C.1 C.2.1 dX7_part_86 (by decide) ?_
            exact ho_zret C hR (Or.inr rfl) h dX7_part_90
  · replace h := if_t h hc
    refine lv_aload_n C.1 C.2.1 dX7_part_11 rfl (lv_at hl 0 rfl) ?_
    refine ho_getR (a' := 10) C cf7 fH_RX7_15 hR ha0 (pH_7_0 ha0.2) dX7_part_12 ?_
    refine lv_iconst (v := (0 : Int32)) C.1 C.2.1 dX7_part_15 (by decide) ?_
    refine lv_sipush (v := (9999 : Int32)) C.1 C.2.1 dX7_part_16 (by decide) ?_
    obtain ⟨r17, S17, h17, h⟩ := ob2_ok h
    refine hr_Vi (v := r17) (S' := S17) (As := [.int (0 : Int32), .int (9999 : Int32)]) (rest := []) C cf10 (c_X10_takeNumber l E (0 : Int32) (9999 : Int32) _ _ h17) yv_X10_takeNumber lk_RX7_86 rfl aH_10 rfl rfl hl.1 (Nat.le_of_ble_eq_true rfl) (by omega) (by decide) hR (ho_A hR) dX7_part_19 (fun H locs hR => ?_)
    refine lv_if_ne (tgt := 27) C.1 C.2.1 dX7_part_22 (by decide) (fun hc => ?_) (fun hc => ?_)
    · replace h := if_f h hc
      refine lv_aload_n C.1 C.2.1 dX7_part_27 rfl (lv_at hl 0 rfl) ?_
      obtain ⟨p18, e18, hp18, h⟩ := ldP_ok h
      refine hr_getP C cf7 fH_RX7_19 hR ha0 e18 dX7_part_28 ?_
      refine lv_aload_n C.1 C.2.1 dX7_part_31 rfl (lv_at hl 0 rfl) ?_
      refine ho_getR (a' := 10) C cf7 fH_RX7_15 hR ha0 (pH_7_0 ha0.2) dX7_part_32 ?_
      refine ho_getI C cf10 fH_RX7_89 hR aH_10 dX7_part_35 ?_
      obtain ⟨S19, h19, h⟩ := ob_ok h
      refine hr_Vv (S' := S19) (As := [.int (S17.1 10 8)]) (rest := []) C cf4 (c_X4_add l E p18 (S17.1 10 8) hp18 _ _ h19) yv_X4_add lk_RX7_50 rfl hp18 rfl rfl hl.1 (Nat.le_of_ble_eq_true rfl) (by omega) (by decide) hR (ho_A hR) dX7_part_38 (fun H locs hR => ?_)
      refine lv_iconst (v := (1 : Int32)) C.1 C.2.1 dX7_part_41 (by decide) ?_
      exact ho_zret C hR (Or.inr rfl) h dX7_part_42
    · replace h := if_t h hc
      refine lv_iconst (v := (0 : Int32)) C.1 C.2.1 dX7_part_25 (by decide) ?_
      exact ho_zret C hR (Or.inl rfl) h dX7_part_26
theorem dX7_oneOfTwo_0 : decode cX7_oneOfTwo 0 = .ok (.aload_n 0, 1) := by decide +kernel
theorem dX7_oneOfTwo_1 : decode cX7_oneOfTwo 1 = .ok (.getfield 15, 3) := by decide +kernel
theorem dX7_oneOfTwo_4 : decode cX7_oneOfTwo 4 = .ok (.bipush 27, 2) := by decide +kernel
theorem dX7_oneOfTwo_6 : decode cX7_oneOfTwo 6 = .ok (.invokevirtual 44, 3) := by decide +kernel
theorem dX7_oneOfTwo_9 : decode cX7_oneOfTwo 9 = .ok (.ifCond .eq 9, 3) := by decide +kernel
theorem dX7_oneOfTwo_12 : decode cX7_oneOfTwo 12 = .ok (.sipush 10104, 3) := by decide +kernel
theorem dX7_oneOfTwo_15 : decode cX7_oneOfTwo 15 = .ok (.goto 6, 3) := by decide +kernel
theorem dX7_oneOfTwo_18 : decode cX7_oneOfTwo 18 = .ok (.sipush 10105, 3) := by decide +kernel
theorem dX7_oneOfTwo_21 : decode cX7_oneOfTwo 21 = .ok (.istore_n 2, 1) := by decide +kernel
theorem dX7_oneOfTwo_22 : decode cX7_oneOfTwo 22 = .ok (.aload_n 0, 1) := by decide +kernel
theorem dX7_oneOfTwo_23 : decode cX7_oneOfTwo 23 = .ok (.getfield 15, 3) := by decide +kernel
theorem dX7_oneOfTwo_26 : decode cX7_oneOfTwo 26 = .ok (.invokevirtual 47, 3) := by decide +kernel
theorem dX7_oneOfTwo_29 : decode cX7_oneOfTwo 29 = .ok (.aload_n 0, 1) := by decide +kernel
theorem dX7_oneOfTwo_30 : decode cX7_oneOfTwo 30 = .ok (.getfield 15, 3) := by decide +kernel
theorem dX7_oneOfTwo_33 : decode cX7_oneOfTwo 33 = .ok (.bipush 40, 2) := by decide +kernel
theorem dX7_oneOfTwo_35 : decode cX7_oneOfTwo 35 = .ok (.invokevirtual 60, 3) := by decide +kernel
theorem dX7_oneOfTwo_38 : decode cX7_oneOfTwo 38 = .ok (.ifCond .ne 19, 3) := by decide +kernel
theorem dX7_oneOfTwo_41 : decode cX7_oneOfTwo 41 = .ok (.aload_n 0, 1) := by decide +kernel
theorem dX7_oneOfTwo_42 : decode cX7_oneOfTwo 42 = .ok (.getfield 15, 3) := by decide +kernel
theorem dX7_oneOfTwo_45 : decode cX7_oneOfTwo 45 = .ok (.iconst 1, 1) := by decide +kernel
theorem dX7_oneOfTwo_46 : decode cX7_oneOfTwo 46 = .ok (.aload_n 0, 1) := by decide +kernel
theorem dX7_oneOfTwo_47 : decode cX7_oneOfTwo 47 = .ok (.getfield 15, 3) := by decide +kernel
theorem dX7_oneOfTwo_50 : decode cX7_oneOfTwo 50 = .ok (.getfield 70, 3) := by decide +kernel
theorem dX7_oneOfTwo_53 : decode cX7_oneOfTwo 53 = .ok (.invokevirtual 73, 3) := by decide +kernel
theorem dX7_oneOfTwo_56 : decode cX7_oneOfTwo 56 = .ok (.ireturn, 1) := by decide +kernel
theorem dX7_oneOfTwo_57 : decode cX7_oneOfTwo 57 = .ok (.aload_n 0, 1) := by decide +kernel
theorem dX7_oneOfTwo_58 : decode cX7_oneOfTwo 58 = .ok (.iload_n 1, 1) := by decide +kernel
theorem dX7_oneOfTwo_59 : decode cX7_oneOfTwo 59 = .ok (.invokevirtual 57, 3) := by decide +kernel
theorem dX7_oneOfTwo_62 : decode cX7_oneOfTwo 62 = .ok (.ifCond .eq 35, 3) := by decide +kernel
theorem dX7_oneOfTwo_65 : decode cX7_oneOfTwo 65 = .ok (.aload_n 0, 1) := by decide +kernel
theorem dX7_oneOfTwo_66 : decode cX7_oneOfTwo 66 = .ok (.iload_n 1, 1) := by decide +kernel
theorem dX7_oneOfTwo_67 : decode cX7_oneOfTwo 67 = .ok (.iconst 1, 1) := by decide +kernel
theorem dX7_oneOfTwo_68 : decode cX7_oneOfTwo 68 = .ok (.iadd, 1) := by decide +kernel
theorem dX7_oneOfTwo_69 : decode cX7_oneOfTwo 69 = .ok (.invokevirtual 27, 3) := by decide +kernel
theorem dX7_oneOfTwo_72 : decode cX7_oneOfTwo 72 = .ok (.ifCond .eq 25, 3) := by decide +kernel
theorem dX7_oneOfTwo_75 : decode cX7_oneOfTwo 75 = .ok (.aload_n 0, 1) := by decide +kernel
theorem dX7_oneOfTwo_76 : decode cX7_oneOfTwo 76 = .ok (.getfield 15, 3) := by decide +kernel
theorem dX7_oneOfTwo_79 : decode cX7_oneOfTwo 79 = .ok (.bipush 44, 2) := by decide +kernel
theorem dX7_oneOfTwo_81 : decode cX7_oneOfTwo 81 = .ok (.invokevirtual 64, 3) := by decide +kernel
theorem dX7_oneOfTwo_84 : decode cX7_oneOfTwo 84 = .ok (.ifCond .eq 13, 3) := by decide +kernel
theorem dX7_oneOfTwo_87 : decode cX7_oneOfTwo 87 = .ok (.aload_n 0, 1) := by decide +kernel
theorem dX7_oneOfTwo_88 : decode cX7_oneOfTwo 88 = .ok (.iload_n 1, 1) := by decide +kernel
theorem dX7_oneOfTwo_89 : decode cX7_oneOfTwo 89 = .ok (.iconst 1, 1) := by decide +kernel
theorem dX7_oneOfTwo_90 : decode cX7_oneOfTwo 90 = .ok (.iadd, 1) := by decide +kernel
theorem dX7_oneOfTwo_91 : decode cX7_oneOfTwo 91 = .ok (.invokevirtual 27, 3) := by decide +kernel
theorem dX7_oneOfTwo_94 : decode cX7_oneOfTwo 94 = .ok (.ifCond .ne 5, 3) := by decide +kernel
theorem dX7_oneOfTwo_97 : decode cX7_oneOfTwo 97 = .ok (.iconst 0, 1) := by decide +kernel
theorem dX7_oneOfTwo_98 : decode cX7_oneOfTwo 98 = .ok (.ireturn, 1) := by decide +kernel
theorem dX7_oneOfTwo_99 : decode cX7_oneOfTwo 99 = .ok (.aload_n 0, 1) := by decide +kernel
theorem dX7_oneOfTwo_100 : decode cX7_oneOfTwo 100 = .ok (.getfield 19, 3) := by decide +kernel
theorem dX7_oneOfTwo_103 : decode cX7_oneOfTwo 103 = .ok (.iload_n 2, 1) := by decide +kernel
theorem dX7_oneOfTwo_104 : decode cX7_oneOfTwo 104 = .ok (.invokevirtual 50, 3) := by decide +kernel
theorem dX7_oneOfTwo_107 : decode cX7_oneOfTwo 107 = .ok (.aload_n 0, 1) := by decide +kernel
theorem dX7_oneOfTwo_108 : decode cX7_oneOfTwo 108 = .ok (.getfield 15, 3) := by decide +kernel
theorem dX7_oneOfTwo_111 : decode cX7_oneOfTwo 111 = .ok (.bipush 41, 2) := by decide +kernel
theorem dX7_oneOfTwo_113 : decode cX7_oneOfTwo 113 = .ok (.invokevirtual 64, 3) := by decide +kernel
theorem dX7_oneOfTwo_116 : decode cX7_oneOfTwo 116 = .ok (.ireturn, 1) := by decide +kernel
def f_X7_oneOfTwo_21 (G : Nat → Nat → Int32 → Hp → Option (Int32 × Hp)) (a0 : Nat) (x1 : Int32) (z0 : Int32) (S : Hp) : Option (Int32 × Hp) :=
  ob (f_X10_next S) (fun S1 => ob2 (f_X10_isSign (40 : Int32) S1) (fun r2 S2 => if r2 = 0 then ob2 (f_X10_wrong (1 : Int32) (S2.1 10 5) S2) (fun r10 S10 => tr r10 (some (r10, S10))) else ob2 (f_X7_opens a0 x1 S2) (fun r3 S3 => if r3 = 0 then some ((0 : Int32), S3) else ob2 (G 4 a0 (x1 + (1 : Int32)) S3) (fun r4 S4 => if r4 = 0 then some ((0 : Int32), S4) else ob2 (f_X10_takeSign (44 : Int32) S4) (fun r5 S5 => if r5 = 0 then some ((0 : Int32), S5) else ob2 (G 4 a0 (x1 + (1 : Int32)) S5) (fun r6 S6 => if r6 = 0 then some ((0 : Int32), S6) else ldP yH S6 a0 1 4 (fun p7 => ob (f_X4_add p7 z0 S6) (fun S8 => ob2 (f_X10_takeSign (41 : Int32) S8) (fun r9 S9 => tr r9 (some (r9, S9)))))))))))
set_option maxHeartbeats 4000000 in
set_option maxRecDepth 100000 in
theorem w_X7_oneOfTwo_21 {p : Program} {l : Launch} {e : Env} {s : State} {m : MethodId} {args : Array Value} {below : List Frame} {meth : Method} {c : Code} {E : Ev} {S0 : Hp} {r : (Int32 × Hp)} (C : ho_I p s m args meth c RX7 cX7_oneOfTwo 3 (some .boolean)) {D : Nat} (hD : 8 ≤ D) (G : Nat → Nat → Int32 → Hp → Option (Int32 × Hp)) (hG : gH l E D G) (a0 : Nat) (ha0 : a0 ∈ yH.1 ∧ yH.2.1 a0 = (1, 7)) :
    ∀ (x1 : Int32) (z0 : Int32) (S : Hp), f_X7_oneOfTwo_21 G a0 x1 z0 S = some r → ho_G p l e s m args below meth c yH E S0 (D + 1) 3 (some (.int r.1), r.2) 21 [(0, .ref (E.2.1 a0)), (1, .int x1)] [.int z0] S := by
  intro x1 z0 S h H locs ls hR hl
  unfold f_X7_oneOfTwo_21 at h
  refine lv_istore_n (lv' := [(2, .int z0), (0, .ref (E.2.1 a0)), (1, .int x1)]) C.1 C.2.1 dX7_oneOfTwo_21 rfl hl (by decide) rfl (fun ls hl => ?_)
  refine lv_aload_n C.1 C.2.1 dX7_oneOfTwo_22 rfl (lv_at hl 1 rfl) ?_
  refine ho_getR (a' := 10) C cf7 fH_RX7_15 hR ha0 (pH_7_0 ha0.2) dX7_oneOfTwo_23 ?_
  obtain ⟨S1, h1, h⟩ := ob_ok h
  refine hr_Vv (S' := S1) (As := []) (rest := []) C cf10 (c_X10_next l E _ _ h1) yv_X10_next lk_RX7_47 rfl aH_10 rfl rfl hl.1 (Nat.le_of_ble_eq_true rfl) (by omega) (by decide) hR (ho_A hR) dX7_oneOfTwo_26 (fun H locs hR => ?_)
  refine lv_aload_n C.1 C.2.1 dX7_oneOfTwo_29 rfl (lv_at hl 1 rfl) ?_
  refine ho_getR (a' := 10) C cf7 fH_RX7_15 hR ha0 (pH_7_0 ha0.2) dX7_oneOfTwo_30 ?_
  refine lv_bipush (v := (40 : Int32)) C.1 C.2.1 dX7_oneOfTwo_33 (by decide) ?_
  obtain ⟨r2, S2, h2, h⟩ := ob2_ok h
  refine hr_Vi (v := r2) (S' := S2) (As := [.int (40 : Int32)]) (rest := []) C cf10 (c_X10_isSign l E (40 : Int32) _ _ h2) yv_X10_isSign lk_RX7_60 rfl aH_10 rfl rfl hl.1 (Nat.le_of_ble_eq_true rfl) (by omega) (by decide) hR (ho_A hR) dX7_oneOfTwo_35 (fun H locs hR => ?_)
  refine lv_if_ne (tgt := 57) C.1 C.2.1 dX7_oneOfTwo_38 (by decide) (fun hc => ?_) (fun hc => ?_)
  · replace h := if_f h hc
    refine lv_aload_n C.1 C.2.1 dX7_oneOfTwo_57 rfl (lv_at hl 1 rfl) ?_
    refine lv_iload_n C.1 C.2.1 dX7_oneOfTwo_58 rfl (lv_at hl 2 rfl) ?_
    obtain ⟨r3, S3, h3, h⟩ := ob2_ok h
    refine hr_Vi (v := r3) (S' := S3) (As := [.int x1]) (rest := []) C cf7 (c_X7_opens l E a0 x1 ha0 _ _ h3) yv_X7_opens lk_RX7_57 rfl ha0 rfl rfl hl.1 (Nat.le_of_ble_eq_true rfl) (by omega) (by decide) hR (ho_A hR) dX7_oneOfTwo_59 (fun H locs hR => ?_)
    refine lv_if_eq (tgt := 97) C.1 C.2.1 dX7_oneOfTwo_62 (by decide) (fun hc => ?_) (fun hc => ?_)
    · replace h := if_t h hc
      refine lv_iconst (v := (0 : Int32)) C.1 C.2.1 dX7_oneOfTwo_97 (by decide) ?_
      exact ho_zret C hR (Or.inl rfl) h dX7_oneOfTwo_98
    · replace h := if_f h hc
      refine lv_aload_n C.1 C.2.1 dX7_oneOfTwo_65 rfl (lv_at hl 1 rfl) ?_
      refine lv_iload_n C.1 C.2.1 dX7_oneOfTwo_66 rfl (lv_at hl 2 rfl) ?_
      refine lv_iconst (v := (1 : Int32)) C.1 C.2.1 dX7_oneOfTwo_67 (by decide) ?_
      refine lv_iadd C.1 C.2.1 dX7_oneOfTwo_68 ?_
      obtain ⟨r4, S4, h4, h⟩ := ob2_ok h
      refine hr_Vi (v := r4) (S' := S4) (As := [.int (x1 + (1 : Int32))]) (rest := []) C cf7 ((hG 4 a0 (x1 + (1 : Int32)) S3 _ ha0 h4).2.2.2.2.1 rfl) yv_X7_sum lk_RX7_27 rfl ha0 rfl rfl hl.1 (Nat.le_of_ble_eq_true rfl) (by omega) (by decide) hR (ho_A hR) dX7_oneOfTwo_69 (fun H locs hR => ?_)
      refine lv_if_eq (tgt := 97) C.1 C.2.1 dX7_oneOfTwo_72 (by decide) (fun hc => ?_) (fun hc => ?_)
      · replace h := if_t h hc
        refine lv_iconst (v := (0 : Int32)) C.1 C.2.1 dX7_oneOfTwo_97 (by decide) ?_
        exact ho_zret C hR (Or.inl rfl) h dX7_oneOfTwo_98
      · replace h := if_f h hc
        refine lv_aload_n C.1 C.2.1 dX7_oneOfTwo_75 rfl (lv_at hl 1 rfl) ?_
        refine ho_getR (a' := 10) C cf7 fH_RX7_15 hR ha0 (pH_7_0 ha0.2) dX7_oneOfTwo_76 ?_
        refine lv_bipush (v := (44 : Int32)) C.1 C.2.1 dX7_oneOfTwo_79 (by decide) ?_
        obtain ⟨r5, S5, h5, h⟩ := ob2_ok h
        refine hr_Vi (v := r5) (S' := S5) (As := [.int (44 : Int32)]) (rest := []) C cf10 (c_X10_takeSign l E (44 : Int32) _ _ h5) yv_X10_takeSign lk_RX7_64 rfl aH_10 rfl rfl hl.1 (Nat.le_of_ble_eq_true rfl) (by omega) (by decide) hR (ho_A hR) dX7_oneOfTwo_81 (fun H locs hR => ?_)
        refine lv_if_eq (tgt := 97) C.1 C.2.1 dX7_oneOfTwo_84 (by decide) (fun hc => ?_) (fun hc => ?_)
        · replace h := if_t h hc
          refine lv_iconst (v := (0 : Int32)) C.1 C.2.1 dX7_oneOfTwo_97 (by decide) ?_
          exact ho_zret C hR (Or.inl rfl) h dX7_oneOfTwo_98
        · replace h := if_f h hc
          refine lv_aload_n C.1 C.2.1 dX7_oneOfTwo_87 rfl (lv_at hl 1 rfl) ?_
          refine lv_iload_n C.1 C.2.1 dX7_oneOfTwo_88 rfl (lv_at hl 2 rfl) ?_
          refine lv_iconst (v := (1 : Int32)) C.1 C.2.1 dX7_oneOfTwo_89 (by decide) ?_
          refine lv_iadd C.1 C.2.1 dX7_oneOfTwo_90 ?_
          obtain ⟨r6, S6, h6, h⟩ := ob2_ok h
          refine hr_Vi (v := r6) (S' := S6) (As := [.int (x1 + (1 : Int32))]) (rest := []) C cf7 ((hG 4 a0 (x1 + (1 : Int32)) S5 _ ha0 h6).2.2.2.2.1 rfl) yv_X7_sum lk_RX7_27 rfl ha0 rfl rfl hl.1 (Nat.le_of_ble_eq_true rfl) (by omega) (by decide) hR (ho_A hR) dX7_oneOfTwo_91 (fun H locs hR => ?_)
          refine lv_if_ne (tgt := 99) C.1 C.2.1 dX7_oneOfTwo_94 (by decide) (fun hc => ?_) (fun hc => ?_)
          · replace h := if_f h hc
            refine lv_aload_n C.1 C.2.1 dX7_oneOfTwo_99 rfl (lv_at hl 1 rfl) ?_
            obtain ⟨p7, e7, hp7, h⟩ := ldP_ok h
            refine hr_getP C cf7 fH_RX7_19 hR ha0 e7 dX7_oneOfTwo_100 ?_
            refine lv_iload_n C.1 C.2.1 dX7_oneOfTwo_103 rfl (lv_at hl 0 rfl) ?_
            obtain ⟨S8, h8, h⟩ := ob_ok h
            refine hr_Vv (S' := S8) (As := [.int z0]) (rest := []) C cf4 (c_X4_add l E p7 z0 hp7 _ _ h8) yv_X4_add lk_RX7_50 rfl hp7 rfl rfl hl.1 (Nat.le_of_ble_eq_true rfl) (by omega) (by decide) hR (ho_A hR) dX7_oneOfTwo_104 (fun H locs hR => ?_)
            refine lv_aload_n C.1 C.2.1 dX7_oneOfTwo_107 rfl (lv_at hl 1 rfl) ?_
            refine ho_getR (a' := 10) C cf7 fH_RX7_15 hR ha0 (pH_7_0 ha0.2) dX7_oneOfTwo_108 ?_
            refine lv_bipush (v := (41 : Int32)) C.1 C.2.1 dX7_oneOfTwo_111 (by decide) ?_
            obtain ⟨r9, S9, h9, h⟩ := ob2_ok h
            refine hr_Vi (v := r9) (S' := S9) (As := [.int (41 : Int32)]) (rest := []) C cf10 (c_X10_takeSign l E (41 : Int32) _ _ h9) yv_X10_takeSign lk_RX7_64 rfl aH_10 rfl rfl hl.1 (Nat.le_of_ble_eq_true rfl) (by omega) (by decide) hR (ho_A hR) dX7_oneOfTwo_113 (fun H locs hR => ?_)
            obtain ⟨hz, h⟩ := tr_ok h
            exact ho_zret C hR hz h dX7_oneOfTwo_116
          · replace h := if_t h hc
            refine lv_iconst (v := (0 : Int32)) C.1 C.2.1 dX7_oneOfTwo_97 (by decide) ?_
            exact ho_zret C hR (Or.inl rfl) h dX7_oneOfTwo_98
  · replace h := if_t h hc
    refine lv_aload_n C.1 C.2.1 dX7_oneOfTwo_41 rfl (lv_at hl 1 rfl) ?_
    refine ho_getR (a' := 10) C cf7 fH_RX7_15 hR ha0 (pH_7_0 ha0.2) dX7_oneOfTwo_42 ?_
    refine lv_iconst (v := (1 : Int32)) C.1 C.2.1 dX7_oneOfTwo_45 (by decide) ?_
    refine lv_aload_n C.1 C.2.1 dX7_oneOfTwo_46 rfl (lv_at hl 1 rfl) ?_
    refine ho_getR (a' := 10) C cf7 fH_RX7_15 hR ha0 (pH_7_0 ha0.2) dX7_oneOfTwo_47 ?_
    refine ho_getI C cf10 fH_RX7_70 hR aH_10 dX7_oneOfTwo_50 ?_
    obtain ⟨r10, S10, h10, h⟩ := ob2_ok h
    refine hr_Vi (v := r10) (S' := S10) (As := [.int (1 : Int32), .int (S2.1 10 5)]) (rest := []) C cf10 (c_X10_wrong l E (1 : Int32) (S2.1 10 5) _ _ h10) yv_X10_wrong lk_RX7_73 rfl aH_10 rfl rfl hl.1 (Nat.le_of_ble_eq_true rfl) (by omega) (by decide) hR (ho_A hR) dX7_oneOfTwo_53 (fun H locs hR => ?_)
    obtain ⟨hz, h⟩ := tr_ok h
    exact ho_zret C hR hz h dX7_oneOfTwo_56
def f_X7_oneOfTwo (G : Nat → Nat → Int32 → Hp → Option (Int32 × Hp)) (a0 : Nat) (x1 : Int32) (S : Hp) : Option (Int32 × Hp) :=
  ob2 (f_X10_isWord (27 : Int32) S) (fun r1 S1 => if r1 = 0 then f_X7_oneOfTwo_21 G a0 x1 (10105 : Int32) S1 else f_X7_oneOfTwo_21 G a0 x1 (10104 : Int32) S1)
set_option maxHeartbeats 4000000 in
set_option maxRecDepth 100000 in
theorem c_X7_oneOfTwo (l : Launch) (E : Ev) (D : Nat) (hD : 8 ≤ D) (G : Nat → Nat → Int32 → Hp → Option (Int32 × Hp)) (hG : gH l E D G) (a0 : Nat) (x1 : Int32) (ha0 : a0 ∈ yH.1 ∧ yH.2.1 a0 = (1, 7)) (S : Hp) (r : (Int32 × Hp)) (h : f_X7_oneOfTwo G a0 x1 S = some r) : ho_M l yH E yX7_oneOfTwo cX7_oneOfTwo 3 (some .boolean) (D + 1) [.ref (E.2.1 a0), .int x1] S (some (.int r.1), r.2) := by
  refine ho_in (by decide) (Nat.le_of_ble_eq_true rfl) ?_
  intro p e s m args below meth c C hR ls hl
  have C : ho_I p s m args meth c RX7 cX7_oneOfTwo 3 (some .boolean) := C
  have hl : lv_has ls 3 [(0, .ref (E.2.1 a0)), (1, .int x1)] := hl
  unfold f_X7_oneOfTwo at h
  refine lv_aload_n C.1 C.2.1 dX7_oneOfTwo_0 rfl (lv_at hl 0 rfl) ?_
  refine ho_getR (a' := 10) C cf7 fH_RX7_15 hR ha0 (pH_7_0 ha0.2) dX7_oneOfTwo_1 ?_
  refine lv_bipush (v := (27 : Int32)) C.1 C.2.1 dX7_oneOfTwo_4 (by decide) ?_
  obtain ⟨r1, S1, h1, h⟩ := ob2_ok h
  refine hr_Vi (v := r1) (S' := S1) (As := [.int (27 : Int32)]) (rest := []) C cf10 (c_X10_isWord l E (27 : Int32) _ _ h1) yv_X10_isWord lk_RX7_44 rfl aH_10 rfl rfl hl.1 (Nat.le_of_ble_eq_true rfl) (by omega) (by decide) hR (ho_A hR) dX7_oneOfTwo_6 (fun H locs hR => ?_)
  refine lv_if_eq (tgt := 18) C.1 C.2.1 dX7_oneOfTwo_9 (by decide) (fun hc => ?_) (fun hc => ?_)
  · replace h := if_t h hc
    refine lv_sipush (v := (10105 : Int32)) C.1 C.2.1 dX7_oneOfTwo_18 (by decide) ?_
    exact w_X7_oneOfTwo_21 C hD G hG a0 ha0 x1 (10105 : Int32) S1 h _ _ _ hR (lv_sub hl [0, 1] rfl)
  · replace h := if_f h hc
    refine lv_sipush (v := (10104 : Int32)) C.1 C.2.1 dX7_oneOfTwo_12 (by decide) ?_
    refine lv_goto (tgt := 21) C.1 C.2.1 dX7_oneOfTwo_15 (by decide) ?_
    exact w_X7_oneOfTwo_21 C hD G hG a0 ha0 x1 (10104 : Int32) S1 h _ _ _ hR (lv_sub hl [0, 1] rfl)
def grpH : Nat → Nat → Nat → Int32 → Hp → Option (Int32 × Hp)
  | 0, _, _, _, _ => none
  | k + 1, t, a, x, S => if t = 0 then f_X7_test (grpH k) a x S else if t = 1 then f_X7_facts (grpH k) a x S else if t = 2 then f_X7_fact (grpH k) a x S else if t = 3 then f_X7_compared (grpH k) a x S else if t = 4 then f_X7_sum (grpH k) a x S else if t = 5 then f_X7_product (grpH k) a x S else if t = 6 then f_X7_part (grpH k) a x S else f_X7_oneOfTwo (grpH k) a x S
theorem c_grpH (l : Launch) (E : Ev) : ∀ k : Nat, gH l E (k + 8) (grpH k) := by
  intro k
  induction k with
  | zero =>
    intro t a x S r ha h
    exact absurd (show (none : Option (Int32 × Hp)) = some r from h) (by simp)
  | succ k ih =>
    intro t a x S r ha h
    rw [grpH] at h
    refine ⟨?_, ?_, ?_, ?_, ?_, ?_, ?_, ?_⟩
    · intro ht
      subst ht
      have h1 : f_X7_test (grpH k) a x S = some r := h
      exact c_X7_test l E (k + 8) (by omega) (grpH k) ih a x ha S r h1
    · intro ht
      subst ht
      have h1 : f_X7_facts (grpH k) a x S = some r := h
      exact c_X7_facts l E (k + 8) (by omega) (grpH k) ih a x ha S r h1
    · intro ht
      subst ht
      have h1 : f_X7_fact (grpH k) a x S = some r := h
      exact c_X7_fact l E (k + 8) (by omega) (grpH k) ih a x ha S r h1
    · intro ht
      subst ht
      have h1 : f_X7_compared (grpH k) a x S = some r := h
      exact c_X7_compared l E (k + 8) (by omega) (grpH k) ih a x ha S r h1
    · intro ht
      subst ht
      have h1 : f_X7_sum (grpH k) a x S = some r := h
      exact c_X7_sum l E (k + 8) (by omega) (grpH k) ih a x ha S r h1
    · intro ht
      subst ht
      have h1 : f_X7_product (grpH k) a x S = some r := h
      exact c_X7_product l E (k + 8) (by omega) (grpH k) ih a x ha S r h1
    · intro ht
      subst ht
      have h1 : f_X7_part (grpH k) a x S = some r := h
      exact c_X7_part l E (k + 8) (by omega) (grpH k) ih a x ha S r h1
    · intro ht
      subst ht
      have h1 : f_X7_oneOfTwo (grpH k) a x S = some r := h
      exact c_X7_oneOfTwo l E (k + 8) (by omega) (grpH k) ih a x ha S r h1
theorem dX7_readSum_0 : decode cX7_readSum 0 = .ok (.aload_n 0, 1) := by decide +kernel
theorem dX7_readSum_1 : decode cX7_readSum 1 = .ok (.aload_n 1, 1) := by decide +kernel
theorem dX7_readSum_2 : decode cX7_readSum 2 = .ok (.iload_n 2, 1) := by decide +kernel
theorem dX7_readSum_3 : decode cX7_readSum 3 = .ok (.invokevirtual 23, 3) := by decide +kernel
theorem dX7_readSum_6 : decode cX7_readSum 6 = .ok (.aload_n 0, 1) := by decide +kernel
theorem dX7_readSum_7 : decode cX7_readSum 7 = .ok (.iconst 0, 1) := by decide +kernel
theorem dX7_readSum_8 : decode cX7_readSum 8 = .ok (.invokevirtual 27, 3) := by decide +kernel
theorem dX7_readSum_11 : decode cX7_readSum 11 = .ok (.ireturn, 1) := by decide +kernel
def f_X7_readSum (a0 : Nat) (a1 : Nat) (x2 : Int32) (S : Hp) : Option (Int32 × Hp) :=
  ob (f_X7_aim a0 a1 x2 S) (fun S1 => ob2 (grpH 60 4 a0 (0 : Int32) S1) (fun r2 S2 => tr r2 (some (r2, S2))))
set_option maxHeartbeats 4000000 in
set_option maxRecDepth 100000 in
theorem c_X7_readSum (l : Launch) (E : Ev) (a0 : Nat) (a1 : Nat) (x2 : Int32) (ha0 : a0 ∈ yH.1 ∧ yH.2.1 a0 = (1, 7)) (ha1 : a1 ∈ yH.1 ∧ yH.2.1 a1 = (1, 4)) (S : Hp) (r : (Int32 × Hp)) (h : f_X7_readSum a0 a1 x2 S = some r) : ho_M l yH E yX7_readSum cX7_readSum 3 (some .boolean) 69 [.ref (E.2.1 a0), .ref (E.2.1 a1), .int x2] S (some (.int r.1), r.2) := by
  refine ho_in (by decide) (Nat.le_of_ble_eq_true rfl) ?_
  intro p e s m args below meth c C hR ls hl
  have C : ho_I p s m args meth c RX7 cX7_readSum 3 (some .boolean) := C
  have hl : lv_has ls 3 [(0, .ref (E.2.1 a0)), (1, .ref (E.2.1 a1)), (2, .int x2)] := hl
  unfold f_X7_readSum at h
  refine lv_aload_n C.1 C.2.1 dX7_readSum_0 rfl (lv_at hl 0 rfl) ?_
  refine lv_aload_n C.1 C.2.1 dX7_readSum_1 rfl (lv_at hl 1 rfl) ?_
  refine lv_iload_n C.1 C.2.1 dX7_readSum_2 rfl (lv_at hl 2 rfl) ?_
  obtain ⟨S1, h1, h⟩ := ob_ok h
  refine hr_Vv (S' := S1) (As := [.ref (E.2.1 a1), .int x2]) (rest := []) C cf7 (c_X7_aim l E a0 a1 x2 ha0 ha1 _ _ h1) yv_X7_aim lk_RX7_23 rfl ha0 rfl rfl hl.1 (Nat.le_of_ble_eq_true rfl) (by decide) (by decide) hR (ho_A hR) dX7_readSum_3 (fun H locs hR => ?_)
  refine lv_aload_n C.1 C.2.1 dX7_readSum_6 rfl (lv_at hl 0 rfl) ?_
  refine lv_iconst (v := (0 : Int32)) C.1 C.2.1 dX7_readSum_7 (by decide) ?_
  obtain ⟨r2, S2, h2, h⟩ := ob2_ok h
  refine hr_Vi (v := r2) (S' := S2) (As := [.int (0 : Int32)]) (rest := []) C cf7 ((c_grpH l E 60 4 a0 (0 : Int32) S1 _ ha0 h2).2.2.2.2.1 rfl) yv_X7_sum lk_RX7_27 rfl ha0 rfl rfl hl.1 (Nat.le_of_ble_eq_true rfl) (by decide) (by decide) hR (ho_A hR) dX7_readSum_8 (fun H locs hR => ?_)
  obtain ⟨hz, h⟩ := tr_ok h
  exact ho_zret C hR hz h dX7_readSum_11
