theorem dX11_refuse_0 : decode cX11_refuse 0 = .ok (.aload_n 0, 1) := by decide +kernel
theorem dX11_refuse_1 : decode cX11_refuse 1 = .ok (.getfield 90, 3) := by decide +kernel
theorem dX11_refuse_4 : decode cX11_refuse 4 = .ok (.iload_n 1, 1) := by decide +kernel
theorem dX11_refuse_5 : decode cX11_refuse 5 = .ok (.dup2, 1) := by decide +kernel
theorem dX11_refuse_6 : decode cX11_refuse 6 = .ok (.iaload, 1) := by decide +kernel
theorem dX11_refuse_7 : decode cX11_refuse 7 = .ok (.iconst 1, 1) := by decide +kernel
theorem dX11_refuse_8 : decode cX11_refuse 8 = .ok (.iadd, 1) := by decide +kernel
theorem dX11_refuse_9 : decode cX11_refuse 9 = .ok (.iastore, 1) := by decide +kernel
theorem dX11_refuse_10 : decode cX11_refuse 10 = .ok (.iconst (-1), 1) := by decide +kernel
theorem dX11_refuse_11 : decode cX11_refuse 11 = .ok (.ireturn, 1) := by decide +kernel
def f_X11_refuse (x1 : Int32) (S : Hp) : Option (Int32 × Hp) :=
  ldI S 1 6 x1 (fun v1 => stI S 1 6 x1 (v1 + (1 : Int32)) (fun S2 => some ((-1 : Int32), S2)))
set_option maxHeartbeats 4000000 in
set_option maxRecDepth 100000 in
theorem c_X11_refuse (l : Launch) (E : Ev) (x1 : Int32) (S : Hp) (r : (Int32 × Hp)) (h : f_X11_refuse x1 S = some r) : ho_M l yH E yX11_refuse cX11_refuse 2 (some .int) 0 [.ref (E.2.1 0), .int x1] S (some (.int r.1), r.2) := by
  refine ho_in (by decide) (Nat.le_of_ble_eq_true rfl) ?_
  intro p e s m args below meth c C hR ls hl
  have C : ho_I p s m args meth c RX11 cX11_refuse 2 (some .int) := C
  have hl : lv_has ls 2 [(0, .ref (E.2.1 0)), (1, .int x1)] := hl
  unfold f_X11_refuse at h
  refine lv_aload_n C.1 C.2.1 dX11_refuse_0 rfl (lv_at hl 0 rfl) ?_
  refine ho_getR (a' := 1) C cf11 fH_RX11_90 hR aH_0 rfl dX11_refuse_1 ?_
  refine lv_iload_n C.1 C.2.1 dX11_refuse_4 rfl (lv_at hl 1 rfl) ?_
  refine lv_dup2_11 C.1 C.2.1 dX11_refuse_5 rfl rfl ?_
  obtain ⟨v1, e1, hi1, h⟩ := ldI_ok h
  refine hr_ild C hR aH_1 hi1 e1 dX11_refuse_6 ?_
  refine lv_iconst (v := (1 : Int32)) C.1 C.2.1 dX11_refuse_7 (by decide) ?_
  refine lv_iadd C.1 C.2.1 dX11_refuse_8 ?_
  obtain ⟨S2, e2, hi2, h⟩ := stI_ok h
  refine hr_ist C hR aH_1 hi2 e2 dX11_refuse_9 (fun H locs hR => ?_)
  refine lv_iconst (v := (-1 : Int32)) C.1 C.2.1 dX11_refuse_10 (by decide) ?_
  exact ho_iret C hR h dX11_refuse_11
theorem dX11_feed_0 : decode cX11_feed 0 = .ok (.aload_n 0, 1) := by decide +kernel
theorem dX11_feed_1 : decode cX11_feed 1 = .ok (.getfield 10, 3) := by decide +kernel
theorem dX11_feed_4 : decode cX11_feed 4 = .ok (.getfield 108, 3) := by decide +kernel
theorem dX11_feed_7 : decode cX11_feed 7 = .ok (.bipush 20, 2) := by decide +kernel
theorem dX11_feed_9 : decode cX11_feed 9 = .ok (.iadd, 1) := by decide +kernel
theorem dX11_feed_10 : decode cX11_feed 10 = .ok (.sipush 1600, 3) := by decide +kernel
theorem dX11_feed_13 : decode cX11_feed 13 = .ok (.if_icmp .le 9, 3) := by decide +kernel
theorem dX11_feed_16 : decode cX11_feed 16 = .ok (.aload_n 0, 1) := by decide +kernel
theorem dX11_feed_17 : decode cX11_feed 17 = .ok (.iconst 0, 1) := by decide +kernel
theorem dX11_feed_18 : decode cX11_feed 18 = .ok (.invokevirtual 111, 3) := by decide +kernel
theorem dX11_feed_21 : decode cX11_feed 21 = .ok (.ireturn, 1) := by decide +kernel
theorem dX11_feed_22 : decode cX11_feed 22 = .ok (.aload_n 0, 1) := by decide +kernel
theorem dX11_feed_23 : decode cX11_feed 23 = .ok (.getfield 10, 3) := by decide +kernel
theorem dX11_feed_26 : decode cX11_feed 26 = .ok (.iload_n 1, 1) := by decide +kernel
theorem dX11_feed_27 : decode cX11_feed 27 = .ok (.invokevirtual 115, 3) := by decide +kernel
theorem dX11_feed_30 : decode cX11_feed 30 = .ok (.aload_n 0, 1) := by decide +kernel
theorem dX11_feed_31 : decode cX11_feed 31 = .ok (.getfield 10, 3) := by decide +kernel
theorem dX11_feed_34 : decode cX11_feed 34 = .ok (.iload_n 2, 1) := by decide +kernel
theorem dX11_feed_35 : decode cX11_feed 35 = .ok (.invokevirtual 115, 3) := by decide +kernel
theorem dX11_feed_38 : decode cX11_feed 38 = .ok (.aload_n 0, 1) := by decide +kernel
theorem dX11_feed_39 : decode cX11_feed 39 = .ok (.getfield 10, 3) := by decide +kernel
theorem dX11_feed_42 : decode cX11_feed 42 = .ok (.iload_n 3, 1) := by decide +kernel
theorem dX11_feed_43 : decode cX11_feed 43 = .ok (.invokevirtual 115, 3) := by decide +kernel
theorem dX11_feed_46 : decode cX11_feed 46 = .ok (.aload_n 0, 1) := by decide +kernel
theorem dX11_feed_47 : decode cX11_feed 47 = .ok (.getfield 10, 3) := by decide +kernel
theorem dX11_feed_50 : decode cX11_feed 50 = .ok (.iload 4, 2) := by decide +kernel
theorem dX11_feed_52 : decode cX11_feed 52 = .ok (.invokevirtual 115, 3) := by decide +kernel
theorem dX11_feed_55 : decode cX11_feed 55 = .ok (.aload_n 0, 1) := by decide +kernel
theorem dX11_feed_56 : decode cX11_feed 56 = .ok (.getfield 10, 3) := by decide +kernel
theorem dX11_feed_59 : decode cX11_feed 59 = .ok (.iload 5, 2) := by decide +kernel
theorem dX11_feed_61 : decode cX11_feed 61 = .ok (.invokevirtual 115, 3) := by decide +kernel
theorem dX11_feed_64 : decode cX11_feed 64 = .ok (.aload_n 0, 1) := by decide +kernel
theorem dX11_feed_65 : decode cX11_feed 65 = .ok (.getfield 10, 3) := by decide +kernel
theorem dX11_feed_68 : decode cX11_feed 68 = .ok (.getfield 108, 3) := by decide +kernel
theorem dX11_feed_71 : decode cX11_feed 71 = .ok (.ireturn, 1) := by decide +kernel
def f_X11_feed (x1 : Int32) (x2 : Int32) (x3 : Int32) (x4 : Int32) (x5 : Int32) (S : Hp) : Option (Int32 × Hp) :=
  if ((S.1 10 1) + (20 : Int32)) ≤ (1600 : Int32) then ob (f_X10_append x1 S) (fun S1 => ob (f_X10_append x2 S1) (fun S2 => ob (f_X10_append x3 S2) (fun S3 => ob (f_X10_append x4 S3) (fun S4 => ob (f_X10_append x5 S4) (fun S5 => some ((S5.1 10 1), S5)))))) else ob2 (f_X11_refuse (0 : Int32) S) (fun r6 S6 => some (r6, S6))
set_option maxHeartbeats 4000000 in
set_option maxRecDepth 100000 in
theorem c_X11_feed (l : Launch) (E : Ev) (x1 : Int32) (x2 : Int32) (x3 : Int32) (x4 : Int32) (x5 : Int32) (S : Hp) (r : (Int32 × Hp)) (h : f_X11_feed x1 x2 x3 x4 x5 S = some r) : ho_M l yH E yX11_feed cX11_feed 6 (some .int) 1 [.ref (E.2.1 0), .int x1, .int x2, .int x3, .int x4, .int x5] S (some (.int r.1), r.2) := by
  refine ho_in (by decide) (Nat.le_of_ble_eq_true rfl) ?_
  intro p e s m args below meth c C hR ls hl
  have C : ho_I p s m args meth c RX11 cX11_feed 6 (some .int) := C
  have hl : lv_has ls 6 [(0, .ref (E.2.1 0)), (1, .int x1), (2, .int x2), (3, .int x3), (4, .int x4), (5, .int x5)] := hl
  unfold f_X11_feed at h
  refine lv_aload_n C.1 C.2.1 dX11_feed_0 rfl (lv_at hl 0 rfl) ?_
  refine ho_getR (a' := 10) C cf11 fH_RX11_10 hR aH_0 rfl dX11_feed_1 ?_
  refine ho_getI C cf10 fH_RX11_108 hR aH_10 dX11_feed_4 ?_
  refine lv_bipush (v := (20 : Int32)) C.1 C.2.1 dX11_feed_7 (by decide) ?_
  refine lv_iadd C.1 C.2.1 dX11_feed_9 ?_
  refine lv_sipush (v := (1600 : Int32)) C.1 C.2.1 dX11_feed_10 (by decide) ?_
  refine lv_icmp_le (tgt := 22) C.1 C.2.1 dX11_feed_13 (by decide) (fun hc => ?_) (fun hc => ?_)
  · replace h := if_t h hc
    refine lv_aload_n C.1 C.2.1 dX11_feed_22 rfl (lv_at hl 0 rfl) ?_
    refine ho_getR (a' := 10) C cf11 fH_RX11_10 hR aH_0 rfl dX11_feed_23 ?_
    refine lv_iload_n C.1 C.2.1 dX11_feed_26 rfl (lv_at hl 1 rfl) ?_
    obtain ⟨S1, h1, h⟩ := ob_ok h
    refine hr_Vv (S' := S1) (As := [.int x1]) (rest := []) C cf10 (c_X10_append l E x1 _ _ h1) yv_X10_append lk_RX11_115 rfl aH_10 rfl rfl hl.1 (Nat.le_of_ble_eq_true rfl) (by decide) (by decide) hR (ho_A hR) dX11_feed_27 (fun H locs hR => ?_)
    refine lv_aload_n C.1 C.2.1 dX11_feed_30 rfl (lv_at hl 0 rfl) ?_
    refine ho_getR (a' := 10) C cf11 fH_RX11_10 hR aH_0 rfl dX11_feed_31 ?_
    refine lv_iload_n C.1 C.2.1 dX11_feed_34 rfl (lv_at hl 2 rfl) ?_
    obtain ⟨S2, h2, h⟩ := ob_ok h
    refine hr_Vv (S' := S2) (As := [.int x2]) (rest := []) C cf10 (c_X10_append l E x2 _ _ h2) yv_X10_append lk_RX11_115 rfl aH_10 rfl rfl hl.1 (Nat.le_of_ble_eq_true rfl) (by decide) (by decide) hR (ho_A hR) dX11_feed_35 (fun H locs hR => ?_)
    refine lv_aload_n C.1 C.2.1 dX11_feed_38 rfl (lv_at hl 0 rfl) ?_
    refine ho_getR (a' := 10) C cf11 fH_RX11_10 hR aH_0 rfl dX11_feed_39 ?_
    refine lv_iload_n C.1 C.2.1 dX11_feed_42 rfl (lv_at hl 3 rfl) ?_
    obtain ⟨S3, h3, h⟩ := ob_ok h
    refine hr_Vv (S' := S3) (As := [.int x3]) (rest := []) C cf10 (c_X10_append l E x3 _ _ h3) yv_X10_append lk_RX11_115 rfl aH_10 rfl rfl hl.1 (Nat.le_of_ble_eq_true rfl) (by decide) (by decide) hR (ho_A hR) dX11_feed_43 (fun H locs hR => ?_)
    refine lv_aload_n C.1 C.2.1 dX11_feed_46 rfl (lv_at hl 0 rfl) ?_
    refine ho_getR (a' := 10) C cf11 fH_RX11_10 hR aH_0 rfl dX11_feed_47 ?_
    refine lv_iload C.1 C.2.1 dX11_feed_50 (lv_at hl 4 rfl) ?_
    obtain ⟨S4, h4, h⟩ := ob_ok h
    refine hr_Vv (S' := S4) (As := [.int x4]) (rest := []) C cf10 (c_X10_append l E x4 _ _ h4) yv_X10_append lk_RX11_115 rfl aH_10 rfl rfl hl.1 (Nat.le_of_ble_eq_true rfl) (by decide) (by decide) hR (ho_A hR) dX11_feed_52 (fun H locs hR => ?_)
    refine lv_aload_n C.1 C.2.1 dX11_feed_55 rfl (lv_at hl 0 rfl) ?_
    refine ho_getR (a' := 10) C cf11 fH_RX11_10 hR aH_0 rfl dX11_feed_56 ?_
    refine lv_iload C.1 C.2.1 dX11_feed_59 (lv_at hl 5 rfl) ?_
    obtain ⟨S5, h5, h⟩ := ob_ok h
    refine hr_Vv (S' := S5) (As := [.int x5]) (rest := []) C cf10 (c_X10_append l E x5 _ _ h5) yv_X10_append lk_RX11_115 rfl aH_10 rfl rfl hl.1 (Nat.le_of_ble_eq_true rfl) (by decide) (by decide) hR (ho_A hR) dX11_feed_61 (fun H locs hR => ?_)
    refine lv_aload_n C.1 C.2.1 dX11_feed_64 rfl (lv_at hl 0 rfl) ?_
    refine ho_getR (a' := 10) C cf11 fH_RX11_10 hR aH_0 rfl dX11_feed_65 ?_
    refine ho_getI C cf10 fH_RX11_108 hR aH_10 dX11_feed_68 ?_
    exact ho_iret C hR h dX11_feed_71
  · replace h := if_f h hc
    refine lv_aload_n C.1 C.2.1 dX11_feed_16 rfl (lv_at hl 0 rfl) ?_
    refine lv_iconst (v := (0 : Int32)) C.1 C.2.1 dX11_feed_17 (by decide) ?_
    obtain ⟨r6, S6, h6, h⟩ := ob2_ok h
    refine hr_Vi (v := r6) (S' := S6) (As := [.int (0 : Int32)]) (rest := []) C cf11 (c_X11_refuse l E (0 : Int32) _ _ h6) yv_X11_refuse lk_RX11_111 rfl aH_0 rfl rfl hl.1 (Nat.le_of_ble_eq_true rfl) (by decide) (by decide) hR (ho_A hR) dX11_feed_18 (fun H locs hR => ?_)
    exact ho_iret C hR h dX11_feed_21
theorem dX11_refuses_0 : decode cX11_refuses 0 = .ok (.aload_n 0, 1) := by decide +kernel
theorem dX11_refuses_1 : decode cX11_refuses 1 = .ok (.getfield 90, 3) := by decide +kernel
theorem dX11_refuses_4 : decode cX11_refuses 4 = .ok (.iload_n 1, 1) := by decide +kernel
theorem dX11_refuses_5 : decode cX11_refuses 5 = .ok (.dup2, 1) := by decide +kernel
theorem dX11_refuses_6 : decode cX11_refuses 6 = .ok (.iaload, 1) := by decide +kernel
theorem dX11_refuses_7 : decode cX11_refuses 7 = .ok (.iconst 1, 1) := by decide +kernel
theorem dX11_refuses_8 : decode cX11_refuses 8 = .ok (.iadd, 1) := by decide +kernel
theorem dX11_refuses_9 : decode cX11_refuses 9 = .ok (.iastore, 1) := by decide +kernel
theorem dX11_refuses_10 : decode cX11_refuses 10 = .ok (.iconst 0, 1) := by decide +kernel
theorem dX11_refuses_11 : decode cX11_refuses 11 = .ok (.ireturn, 1) := by decide +kernel
def f_X11_refuses (x1 : Int32) (S : Hp) : Option (Int32 × Hp) :=
  ldI S 1 6 x1 (fun v1 => stI S 1 6 x1 (v1 + (1 : Int32)) (fun S2 => some ((0 : Int32), S2)))
set_option maxHeartbeats 4000000 in
set_option maxRecDepth 100000 in
theorem c_X11_refuses (l : Launch) (E : Ev) (x1 : Int32) (S : Hp) (r : (Int32 × Hp)) (h : f_X11_refuses x1 S = some r) : ho_M l yH E yX11_refuses cX11_refuses 2 (some .boolean) 0 [.ref (E.2.1 0), .int x1] S (some (.int r.1), r.2) := by
  refine ho_in (by decide) (Nat.le_of_ble_eq_true rfl) ?_
  intro p e s m args below meth c C hR ls hl
  have C : ho_I p s m args meth c RX11 cX11_refuses 2 (some .boolean) := C
  have hl : lv_has ls 2 [(0, .ref (E.2.1 0)), (1, .int x1)] := hl
  unfold f_X11_refuses at h
  refine lv_aload_n C.1 C.2.1 dX11_refuses_0 rfl (lv_at hl 0 rfl) ?_
  refine ho_getR (a' := 1) C cf11 fH_RX11_90 hR aH_0 rfl dX11_refuses_1 ?_
  refine lv_iload_n C.1 C.2.1 dX11_refuses_4 rfl (lv_at hl 1 rfl) ?_
  refine lv_dup2_11 C.1 C.2.1 dX11_refuses_5 rfl rfl ?_
  obtain ⟨v1, e1, hi1, h⟩ := ldI_ok h
  refine hr_ild C hR aH_1 hi1 e1 dX11_refuses_6 ?_
  refine lv_iconst (v := (1 : Int32)) C.1 C.2.1 dX11_refuses_7 (by decide) ?_
  refine lv_iadd C.1 C.2.1 dX11_refuses_8 ?_
  obtain ⟨S2, e2, hi2, h⟩ := stI_ok h
  refine hr_ist C hR aH_1 hi2 e2 dX11_refuses_9 (fun H locs hR => ?_)
  refine lv_iconst (v := (0 : Int32)) C.1 C.2.1 dX11_refuses_10 (by decide) ?_
  exact ho_zret C hR (Or.inl rfl) h dX11_refuses_11
theorem dX11_end_0 : decode cX11_end 0 = .ok (.iload_n 1, 1) := by decide +kernel
theorem dX11_end_1 : decode cX11_end 1 = .ok (.ifCond .lt 14, 3) := by decide +kernel
theorem dX11_end_4 : decode cX11_end 4 = .ok (.iload_n 1, 1) := by decide +kernel
theorem dX11_end_5 : decode cX11_end 5 = .ok (.aload_n 0, 1) := by decide +kernel
theorem dX11_end_6 : decode cX11_end 6 = .ok (.getfield 10, 3) := by decide +kernel
theorem dX11_end_9 : decode cX11_end 9 = .ok (.getfield 108, 3) := by decide +kernel
theorem dX11_end_12 : decode cX11_end 12 = .ok (.if_icmp .le 9, 3) := by decide +kernel
theorem dX11_end_15 : decode cX11_end 15 = .ok (.aload_n 0, 1) := by decide +kernel
theorem dX11_end_16 : decode cX11_end 16 = .ok (.iconst 0, 1) := by decide +kernel
theorem dX11_end_17 : decode cX11_end 17 = .ok (.invokevirtual 119, 3) := by decide +kernel
theorem dX11_end_20 : decode cX11_end 20 = .ok (.ireturn, 1) := by decide +kernel
theorem dX11_end_21 : decode cX11_end 21 = .ok (.aload_n 0, 1) := by decide +kernel
theorem dX11_end_22 : decode cX11_end 22 = .ok (.getfield 10, 3) := by decide +kernel
theorem dX11_end_25 : decode cX11_end 25 = .ok (.iload_n 1, 1) := by decide +kernel
theorem dX11_end_26 : decode cX11_end 26 = .ok (.putfield 108, 3) := by decide +kernel
theorem dX11_end_29 : decode cX11_end 29 = .ok (.iconst 1, 1) := by decide +kernel
theorem dX11_end_30 : decode cX11_end 30 = .ok (.ireturn, 1) := by decide +kernel
def f_X11_end_15 (S : Hp) : Option (Int32 × Hp) :=
  ob2 (f_X11_refuses (0 : Int32) S) (fun r1 S1 => tr r1 (some (r1, S1)))
set_option maxHeartbeats 4000000 in
set_option maxRecDepth 100000 in
theorem w_X11_end_15 {p : Program} {l : Launch} {e : Env} {s : State} {m : MethodId} {args : Array Value} {below : List Frame} {meth : Method} {c : Code} {E : Ev} {S0 : Hp} {r : (Int32 × Hp)} (C : ho_I p s m args meth c RX11 cX11_end 2 (some .boolean)) :
    ∀ (S : Hp), f_X11_end_15 S = some r → ho_G p l e s m args below meth c yH E S0 1 2 (some (.int r.1), r.2) 15 [(0, .ref (E.2.1 0))] [] S := by
  intro S h H locs ls hR hl
  unfold f_X11_end_15 at h
  refine lv_aload_n C.1 C.2.1 dX11_end_15 rfl (lv_at hl 0 rfl) ?_
  refine lv_iconst (v := (0 : Int32)) C.1 C.2.1 dX11_end_16 (by decide) ?_
  obtain ⟨r1, S1, h1, h⟩ := ob2_ok h
  refine hr_Vi (v := r1) (S' := S1) (As := [.int (0 : Int32)]) (rest := []) C cf11 (c_X11_refuses l E (0 : Int32) _ _ h1) yv_X11_refuses lk_RX11_119 rfl aH_0 rfl rfl hl.1 (Nat.le_of_ble_eq_true rfl) (by decide) (by decide) hR (ho_A hR) dX11_end_17 (fun H locs hR => ?_)
  obtain ⟨hz, h⟩ := tr_ok h
  exact ho_zret C hR hz h dX11_end_20
def f_X11_end (x1 : Int32) (S : Hp) : Option (Int32 × Hp) :=
  if x1 < 0 then f_X11_end_15 S else if x1 ≤ (S.1 10 1) then le1 (ho_sI S 10 1 x1) (fun S1 => some ((1 : Int32), S1)) else f_X11_end_15 S
set_option maxHeartbeats 4000000 in
set_option maxRecDepth 100000 in
theorem c_X11_end (l : Launch) (E : Ev) (x1 : Int32) (S : Hp) (r : (Int32 × Hp)) (h : f_X11_end x1 S = some r) : ho_M l yH E yX11_end cX11_end 2 (some .boolean) 1 [.ref (E.2.1 0), .int x1] S (some (.int r.1), r.2) := by
  refine ho_in (by decide) (Nat.le_of_ble_eq_true rfl) ?_
  intro p e s m args below meth c C hR ls hl
  have C : ho_I p s m args meth c RX11 cX11_end 2 (some .boolean) := C
  have hl : lv_has ls 2 [(0, .ref (E.2.1 0)), (1, .int x1)] := hl
  unfold f_X11_end at h
  refine lv_iload_n C.1 C.2.1 dX11_end_0 rfl (lv_at hl 1 rfl) ?_
  refine lv_if_lt (tgt := 15) C.1 C.2.1 dX11_end_1 (by decide) (fun hc => ?_) (fun hc => ?_)
  · replace h := if_t h hc
    exact w_X11_end_15 C S h _ _ _ hR (lv_sub hl [0] rfl)
  · replace h := if_f h hc
    refine lv_iload_n C.1 C.2.1 dX11_end_4 rfl (lv_at hl 1 rfl) ?_
    refine lv_aload_n C.1 C.2.1 dX11_end_5 rfl (lv_at hl 0 rfl) ?_
    refine ho_getR (a' := 10) C cf11 fH_RX11_10 hR aH_0 rfl dX11_end_6 ?_
    refine ho_getI C cf10 fH_RX11_108 hR aH_10 dX11_end_9 ?_
    refine lv_icmp_le (tgt := 21) C.1 C.2.1 dX11_end_12 (by decide) (fun hc => ?_) (fun hc => ?_)
    · replace h := if_t h hc
      refine lv_aload_n C.1 C.2.1 dX11_end_21 rfl (lv_at hl 0 rfl) ?_
      refine ho_getR (a' := 10) C cf11 fH_RX11_10 hR aH_0 rfl dX11_end_22 ?_
      refine lv_iload_n C.1 C.2.1 dX11_end_25 rfl (lv_at hl 1 rfl) ?_
      obtain ⟨S1, e1, h⟩ := le1_ok h
      refine hr_putI C cf10 fH_RX11_108 hR aH_10 e1 dX11_end_26 (fun H locs hR => ?_)
      refine lv_iconst (v := (1 : Int32)) C.1 C.2.1 dX11_end_29 (by decide) ?_
      exact ho_zret C hR (Or.inr rfl) h dX11_end_30
    · replace h := if_f h hc
      exact w_X11_end_15 C S h _ _ _ hR (lv_sub hl [0] rfl)
theorem dX11_forgetPast_0 : decode cX11_forgetPast 0 = .ok (.aload_n 0, 1) := by decide +kernel
theorem dX11_forgetPast_1 : decode cX11_forgetPast 1 = .ok (.iconst 0, 1) := by decide +kernel
theorem dX11_forgetPast_2 : decode cX11_forgetPast 2 = .ok (.putfield 98, 3) := by decide +kernel
theorem dX11_forgetPast_5 : decode cX11_forgetPast 5 = .ok (.aload_n 0, 1) := by decide +kernel
theorem dX11_forgetPast_6 : decode cX11_forgetPast 6 = .ok (.iconst 0, 1) := by decide +kernel
theorem dX11_forgetPast_7 : decode cX11_forgetPast 7 = .ok (.putfield 102, 3) := by decide +kernel
theorem dX11_forgetPast_10 : decode cX11_forgetPast 10 = .ok (.aload_n 0, 1) := by decide +kernel
theorem dX11_forgetPast_11 : decode cX11_forgetPast 11 = .ok (.getfield 58, 3) := by decide +kernel
theorem dX11_forgetPast_14 : decode cX11_forgetPast 14 = .ok (.invokevirtual 328, 3) := by decide +kernel
theorem dX11_forgetPast_17 : decode cX11_forgetPast 17 = .ok (.return_, 1) := by decide +kernel
def f_X11_forgetPast (S : Hp) : Option Hp :=
  le1 (ho_sI S 0 14 (0 : Int32)) (fun S1 => le1 (ho_sI S1 0 15 (0 : Int32)) (fun S2 => ob (f_X0_forget S2) (fun S3 => some S3)))
set_option maxHeartbeats 4000000 in
set_option maxRecDepth 100000 in
theorem c_X11_forgetPast (l : Launch) (E : Ev) (S : Hp) (r : Hp) (h : f_X11_forgetPast S = some r) : ho_M l yH E yX11_forgetPast cX11_forgetPast 1 none 1 [.ref (E.2.1 0)] S (none, r) := by
  refine ho_in (by decide) (Nat.le_of_ble_eq_true rfl) ?_
  intro p e s m args below meth c C hR ls hl
  have C : ho_I p s m args meth c RX11 cX11_forgetPast 1 none := C
  have hl : lv_has ls 1 [(0, .ref (E.2.1 0))] := hl
  unfold f_X11_forgetPast at h
  refine lv_aload_n C.1 C.2.1 dX11_forgetPast_0 rfl (lv_at hl 0 rfl) ?_
  refine lv_iconst (v := (0 : Int32)) C.1 C.2.1 dX11_forgetPast_1 (by decide) ?_
  obtain ⟨S1, e1, h⟩ := le1_ok h
  refine hr_putI C cf11 fH_RX11_98 hR aH_0 e1 dX11_forgetPast_2 (fun H locs hR => ?_)
  refine lv_aload_n C.1 C.2.1 dX11_forgetPast_5 rfl (lv_at hl 0 rfl) ?_
  refine lv_iconst (v := (0 : Int32)) C.1 C.2.1 dX11_forgetPast_6 (by decide) ?_
  obtain ⟨S2, e2, h⟩ := le1_ok h
  refine hr_putI C cf11 fH_RX11_102 hR aH_0 e2 dX11_forgetPast_7 (fun H locs hR => ?_)
  refine lv_aload_n C.1 C.2.1 dX11_forgetPast_10 rfl (lv_at hl 0 rfl) ?_
  refine ho_getR (a' := 60) C cf11 fH_RX11_58 hR aH_0 rfl dX11_forgetPast_11 ?_
  obtain ⟨S3, h3, h⟩ := ob_ok h
  refine hr_Vv (S' := S3) (As := []) (rest := []) C cf0 (c_X0_forget l E _ _ h3) yv_X0_forget lk_RX11_328 rfl aH_60 rfl rfl hl.1 (Nat.le_of_ble_eq_true rfl) (by decide) (by decide) hR (ho_A hR) dX11_forgetPast_14 (fun H locs hR => ?_)
  exact ho_vret C hR h dX11_forgetPast_17
theorem dX11_crown_0 : decode cX11_crown 0 = .ok (.aload_n 0, 1) := by decide +kernel
theorem dX11_crown_1 : decode cX11_crown 1 = .ok (.getfield 31, 3) := by decide +kernel
theorem dX11_crown_4 : decode cX11_crown 4 = .ok (.aload_n 0, 1) := by decide +kernel
theorem dX11_crown_5 : decode cX11_crown 5 = .ok (.getfield 23, 3) := by decide +kernel
theorem dX11_crown_8 : decode cX11_crown 8 = .ok (.invokevirtual 123, 3) := by decide +kernel
theorem dX11_crown_11 : decode cX11_crown 11 = .ok (.istore_n 1, 1) := by decide +kernel
theorem dX11_crown_12 : decode cX11_crown 12 = .ok (.aload_n 0, 1) := by decide +kernel
theorem dX11_crown_13 : decode cX11_crown 13 = .ok (.getfield 10, 3) := by decide +kernel
theorem dX11_crown_16 : decode cX11_crown 16 = .ok (.iconst 0, 1) := by decide +kernel
theorem dX11_crown_17 : decode cX11_crown 17 = .ok (.putfield 108, 3) := by decide +kernel
theorem dX11_crown_20 : decode cX11_crown 20 = .ok (.iload_n 1, 1) := by decide +kernel
theorem dX11_crown_21 : decode cX11_crown 21 = .ok (.ifCond .ne 9, 3) := by decide +kernel
theorem dX11_crown_24 : decode cX11_crown 24 = .ok (.aload_n 0, 1) := by decide +kernel
theorem dX11_crown_25 : decode cX11_crown 25 = .ok (.iconst 1, 1) := by decide +kernel
theorem dX11_crown_26 : decode cX11_crown 26 = .ok (.invokevirtual 111, 3) := by decide +kernel
theorem dX11_crown_29 : decode cX11_crown 29 = .ok (.ireturn, 1) := by decide +kernel
theorem dX11_crown_30 : decode cX11_crown 30 = .ok (.aload_n 0, 1) := by decide +kernel
theorem dX11_crown_31 : decode cX11_crown 31 = .ok (.getfield 19, 3) := by decide +kernel
theorem dX11_crown_34 : decode cX11_crown 34 = .ok (.astore_n 2, 1) := by decide +kernel
theorem dX11_crown_35 : decode cX11_crown 35 = .ok (.aload_n 0, 1) := by decide +kernel
theorem dX11_crown_36 : decode cX11_crown 36 = .ok (.aload_n 0, 1) := by decide +kernel
theorem dX11_crown_37 : decode cX11_crown 37 = .ok (.getfield 23, 3) := by decide +kernel
theorem dX11_crown_40 : decode cX11_crown 40 = .ok (.putfield 19, 3) := by decide +kernel
theorem dX11_crown_43 : decode cX11_crown 43 = .ok (.aload_n 0, 1) := by decide +kernel
theorem dX11_crown_44 : decode cX11_crown 44 = .ok (.aload_n 2, 1) := by decide +kernel
theorem dX11_crown_45 : decode cX11_crown 45 = .ok (.putfield 23, 3) := by decide +kernel
theorem dX11_crown_48 : decode cX11_crown 48 = .ok (.aload_n 0, 1) := by decide +kernel
theorem dX11_crown_49 : decode cX11_crown 49 = .ok (.iconst 1, 1) := by decide +kernel
theorem dX11_crown_50 : decode cX11_crown 50 = .ok (.putfield 94, 3) := by decide +kernel
theorem dX11_crown_53 : decode cX11_crown 53 = .ok (.aload_n 0, 1) := by decide +kernel
theorem dX11_crown_54 : decode cX11_crown 54 = .ok (.getfield 49, 3) := by decide +kernel
theorem dX11_crown_57 : decode cX11_crown 57 = .ok (.aload_n 0, 1) := by decide +kernel
theorem dX11_crown_58 : decode cX11_crown 58 = .ok (.getfield 19, 3) := by decide +kernel
theorem dX11_crown_61 : decode cX11_crown 61 = .ok (.putfield 127, 3) := by decide +kernel
theorem dX11_crown_64 : decode cX11_crown 64 = .ok (.aload_n 0, 1) := by decide +kernel
theorem dX11_crown_65 : decode cX11_crown 65 = .ok (.getfield 79, 3) := by decide +kernel
theorem dX11_crown_68 : decode cX11_crown 68 = .ok (.aload_n 0, 1) := by decide +kernel
theorem dX11_crown_69 : decode cX11_crown 69 = .ok (.getfield 19, 3) := by decide +kernel
theorem dX11_crown_72 : decode cX11_crown 72 = .ok (.invokevirtual 128, 3) := by decide +kernel
theorem dX11_crown_75 : decode cX11_crown 75 = .ok (.aload_n 0, 1) := by decide +kernel
theorem dX11_crown_76 : decode cX11_crown 76 = .ok (.getfield 65, 3) := by decide +kernel
theorem dX11_crown_79 : decode cX11_crown 79 = .ok (.iconst 0, 1) := by decide +kernel
theorem dX11_crown_80 : decode cX11_crown 80 = .ok (.putfield 131, 3) := by decide +kernel
theorem dX11_crown_83 : decode cX11_crown 83 = .ok (.aload_n 0, 1) := by decide +kernel
theorem dX11_crown_84 : decode cX11_crown 84 = .ok (.invokevirtual 134, 3) := by decide +kernel
theorem dX11_crown_87 : decode cX11_crown 87 = .ok (.aload_n 0, 1) := by decide +kernel
theorem dX11_crown_88 : decode cX11_crown 88 = .ok (.getfield 31, 3) := by decide +kernel
theorem dX11_crown_91 : decode cX11_crown 91 = .ok (.getfield 137, 3) := by decide +kernel
theorem dX11_crown_94 : decode cX11_crown 94 = .ok (.ireturn, 1) := by decide +kernel
def f_X11_crown (S : Hp) : Option (Int32 × Hp) :=
  ldP yH S 0 2 2 (fun p1 => ob2 (f_X3_readInto p1 S) (fun r2 S2 => le1 (ho_sI S2 10 1 (0 : Int32)) (fun S3 => if r2 = 0 then ob2 (f_X11_refuse (1 : Int32) S3) (fun r15 S15 => some (r15, S15)) else ldP yH S3 0 1 2 (fun p4 => ldP yH S3 0 2 2 (fun p5 => le1 (ho_sP S3 0 1 p5) (fun S6 => le1 (ho_sP S6 0 2 p4) (fun S7 => le1 (ho_sI S7 0 13 (1 : Int32)) (fun S8 => ldP yH S8 0 1 2 (fun p9 => le1 (ho_sP S8 50 0 p9) (fun S10 => ldP yH S10 0 1 2 (fun p11 => ob (f_X9_startOf 1200 p11 S10) (fun S12 => le1 (ho_sI S12 70 0 (0 : Int32)) (fun S13 => ob (f_X11_forgetPast S13) (fun S14 => some ((S14.1 20 4), S14)))))))))))))))
set_option maxHeartbeats 4000000 in
set_option maxRecDepth 100000 in
theorem c_X11_crown (l : Launch) (E : Ev) (S : Hp) (r : (Int32 × Hp)) (h : f_X11_crown S = some r) : ho_M l yH E yX11_crown cX11_crown 3 (some .int) 72 [.ref (E.2.1 0)] S (some (.int r.1), r.2) := by
  refine ho_in (by decide) (Nat.le_of_ble_eq_true rfl) ?_
  intro p e s m args below meth c C hR ls hl
  have C : ho_I p s m args meth c RX11 cX11_crown 3 (some .int) := C
  have hl : lv_has ls 3 [(0, .ref (E.2.1 0))] := hl
  unfold f_X11_crown at h
  refine lv_aload_n C.1 C.2.1 dX11_crown_0 rfl (lv_at hl 0 rfl) ?_
  refine ho_getR (a' := 20) C cf11 fH_RX11_31 hR aH_0 rfl dX11_crown_1 ?_
  refine lv_aload_n C.1 C.2.1 dX11_crown_4 rfl (lv_at hl 0 rfl) ?_
  obtain ⟨p1, e1, hp1, h⟩ := ldP_ok h
  refine hr_getP C cf11 fH_RX11_23 hR aH_0 e1 dX11_crown_5 ?_
  obtain ⟨r2, S2, h2, h⟩ := ob2_ok h
  refine hr_Vi (v := r2) (S' := S2) (As := [.ref (E.2.1 p1)]) (rest := []) C cf3 (c_X3_readInto l E p1 hp1 _ _ h2) yv_X3_readInto lk_RX11_123 rfl aH_20 rfl rfl hl.1 (Nat.le_of_ble_eq_true rfl) (by decide) (by decide) hR (ho_A hR) dX11_crown_8 (fun H locs hR => ?_)
  refine lv_istore_n (lv' := [(1, .int r2), (0, .ref (E.2.1 0))]) C.1 C.2.1 dX11_crown_11 rfl hl (by decide) rfl (fun ls hl => ?_)
  refine lv_aload_n C.1 C.2.1 dX11_crown_12 rfl (lv_at hl 1 rfl) ?_
  refine ho_getR (a' := 10) C cf11 fH_RX11_10 hR aH_0 rfl dX11_crown_13 ?_
  refine lv_iconst (v := (0 : Int32)) C.1 C.2.1 dX11_crown_16 (by decide) ?_
  obtain ⟨S3, e3, h⟩ := le1_ok h
  refine hr_putI C cf10 fH_RX11_108 hR aH_10 e3 dX11_crown_17 (fun H locs hR => ?_)
  refine lv_iload_n C.1 C.2.1 dX11_crown_20 rfl (lv_at hl 0 rfl) ?_
  refine lv_if_ne (tgt := 30) C.1 C.2.1 dX11_crown_21 (by decide) (fun hc => ?_) (fun hc => ?_)
  · replace h := if_f h hc
    refine lv_aload_n C.1 C.2.1 dX11_crown_30 rfl (lv_at hl 1 rfl) ?_
    obtain ⟨p4, e4, hp4, h⟩ := ldP_ok h
    refine hr_getP C cf11 fH_RX11_19 hR aH_0 e4 dX11_crown_31 ?_
    refine lv_astore_n (lv' := [(2, .ref (E.2.1 p4)), (1, .int r2), (0, .ref (E.2.1 0))]) C.1 C.2.1 dX11_crown_34 rfl hl (by decide) rfl (fun ls hl => ?_)
    refine lv_aload_n C.1 C.2.1 dX11_crown_35 rfl (lv_at hl 2 rfl) ?_
    refine lv_aload_n C.1 C.2.1 dX11_crown_36 rfl (lv_at hl 2 rfl) ?_
    obtain ⟨p5, e5, hp5, h⟩ := ldP_ok h
    refine hr_getP C cf11 fH_RX11_23 hR aH_0 e5 dX11_crown_37 ?_
    obtain ⟨S6, e6, h⟩ := le1_ok h
    refine hr_putP C cf11 fH_RX11_19 hR aH_0 e6 dX11_crown_40 (fun H locs hR => ?_)
    refine lv_aload_n C.1 C.2.1 dX11_crown_43 rfl (lv_at hl 2 rfl) ?_
    refine lv_aload_n C.1 C.2.1 dX11_crown_44 rfl (lv_at hl 0 rfl) ?_
    obtain ⟨S7, e7, h⟩ := le1_ok h
    refine hr_putP C cf11 fH_RX11_23 hR aH_0 e7 dX11_crown_45 (fun H locs hR => ?_)
    refine lv_aload_n C.1 C.2.1 dX11_crown_48 rfl (lv_at hl 2 rfl) ?_
    refine lv_iconst (v := (1 : Int32)) C.1 C.2.1 dX11_crown_49 (by decide) ?_
    obtain ⟨S8, e8, h⟩ := le1_ok h
    refine hr_putZ C cf11 fH_RX11_94 hR aH_0 (Or.inr rfl) e8 dX11_crown_50 (fun H locs hR => ?_)
    refine lv_aload_n C.1 C.2.1 dX11_crown_53 rfl (lv_at hl 2 rfl) ?_
    refine ho_getR (a' := 50) C cf11 fH_RX11_49 hR aH_0 rfl dX11_crown_54 ?_
    refine lv_aload_n C.1 C.2.1 dX11_crown_57 rfl (lv_at hl 2 rfl) ?_
    obtain ⟨p9, e9, hp9, h⟩ := ldP_ok h
    refine hr_getP C cf11 fH_RX11_19 hR aH_0 e9 dX11_crown_58 ?_
    obtain ⟨S10, e10, h⟩ := le1_ok h
    refine hr_putP C cf8 fH_RX11_127 hR aH_50 e10 dX11_crown_61 (fun H locs hR => ?_)
    refine lv_aload_n C.1 C.2.1 dX11_crown_64 rfl (lv_at hl 2 rfl) ?_
    refine ho_getR (a' := 1200) C cf11 fH_RX11_79 hR aH_0 rfl dX11_crown_65 ?_
    refine lv_aload_n C.1 C.2.1 dX11_crown_68 rfl (lv_at hl 2 rfl) ?_
    obtain ⟨p11, e11, hp11, h⟩ := ldP_ok h
    refine hr_getP C cf11 fH_RX11_19 hR aH_0 e11 dX11_crown_69 ?_
    obtain ⟨S12, h12, h⟩ := ob_ok h
    refine hr_Vv (S' := S12) (As := [.ref (E.2.1 p11)]) (rest := []) C cf9 (c_X9_startOf l E 1200 p11 aH_1200 hp11 _ _ h12) yv_X9_startOf lk_RX11_128 rfl aH_1200 rfl rfl hl.1 (Nat.le_of_ble_eq_true rfl) (by decide) (by decide) hR (ho_A hR) dX11_crown_72 (fun H locs hR => ?_)
    refine lv_aload_n C.1 C.2.1 dX11_crown_75 rfl (lv_at hl 2 rfl) ?_
    refine ho_getR (a' := 70) C cf11 fH_RX11_65 hR aH_0 rfl dX11_crown_76 ?_
    refine lv_iconst (v := (0 : Int32)) C.1 C.2.1 dX11_crown_79 (by decide) ?_
    obtain ⟨S13, e13, h⟩ := le1_ok h
    refine hr_putI C cf1 fH_RX11_131 hR aH_70 e13 dX11_crown_80 (fun H locs hR => ?_)
    refine lv_aload_n C.1 C.2.1 dX11_crown_83 rfl (lv_at hl 2 rfl) ?_
    obtain ⟨S14, h14, h⟩ := ob_ok h
    refine hr_Vv (S' := S14) (As := []) (rest := []) C cf11 (c_X11_forgetPast l E _ _ h14) yv_X11_forgetPast lk_RX11_134 rfl aH_0 rfl rfl hl.1 (Nat.le_of_ble_eq_true rfl) (by decide) (by decide) hR (ho_A hR) dX11_crown_84 (fun H locs hR => ?_)
    refine lv_aload_n C.1 C.2.1 dX11_crown_87 rfl (lv_at hl 2 rfl) ?_
    refine ho_getR (a' := 20) C cf11 fH_RX11_31 hR aH_0 rfl dX11_crown_88 ?_
    refine ho_getI C cf3 fH_RX11_137 hR aH_20 dX11_crown_91 ?_
    exact ho_iret C hR h dX11_crown_94
  · replace h := if_t h hc
    refine lv_aload_n C.1 C.2.1 dX11_crown_24 rfl (lv_at hl 1 rfl) ?_
    refine lv_iconst (v := (1 : Int32)) C.1 C.2.1 dX11_crown_25 (by decide) ?_
    obtain ⟨r15, S15, h15, h⟩ := ob2_ok h
    refine hr_Vi (v := r15) (S' := S15) (As := [.int (1 : Int32)]) (rest := []) C cf11 (c_X11_refuse l E (1 : Int32) _ _ h15) yv_X11_refuse lk_RX11_111 rfl aH_0 rfl rfl hl.1 (Nat.le_of_ble_eq_true rfl) (by decide) (by decide) hR (ho_A hR) dX11_crown_26 (fun H locs hR => ?_)
    exact ho_iret C hR h dX11_crown_29
theorem dX11_fault_0 : decode cX11_fault 0 = .ok (.iload_n 1, 1) := by decide +kernel
theorem dX11_fault_1 : decode cX11_fault 1 = .ok (.lookupswitch 43 #[(0, 27), (1, 35)], 27) := by decide +kernel
theorem dX11_fault_28 : decode cX11_fault 28 = .ok (.aload_n 0, 1) := by decide +kernel
theorem dX11_fault_29 : decode cX11_fault 29 = .ok (.getfield 10, 3) := by decide +kernel
theorem dX11_fault_32 : decode cX11_fault 32 = .ok (.getfield 140, 3) := by decide +kernel
theorem dX11_fault_35 : decode cX11_fault 35 = .ok (.ireturn, 1) := by decide +kernel
theorem dX11_fault_36 : decode cX11_fault 36 = .ok (.aload_n 0, 1) := by decide +kernel
theorem dX11_fault_37 : decode cX11_fault 37 = .ok (.getfield 10, 3) := by decide +kernel
theorem dX11_fault_40 : decode cX11_fault 40 = .ok (.getfield 143, 3) := by decide +kernel
theorem dX11_fault_43 : decode cX11_fault 43 = .ok (.ireturn, 1) := by decide +kernel
theorem dX11_fault_44 : decode cX11_fault 44 = .ok (.iconst (-1), 1) := by decide +kernel
theorem dX11_fault_45 : decode cX11_fault 45 = .ok (.ireturn, 1) := by decide +kernel
def f_X11_fault (x1 : Int32) (S : Hp) : Option (Int32 × Hp) :=
  if x1 = (0 : Int32) then some ((S.1 10 2), S) else if x1 = (1 : Int32) then some ((S.1 10 3), S) else some ((-1 : Int32), S)
set_option maxHeartbeats 4000000 in
set_option maxRecDepth 100000 in
theorem c_X11_fault (l : Launch) (E : Ev) (x1 : Int32) (S : Hp) (r : (Int32 × Hp)) (h : f_X11_fault x1 S = some r) : ho_M l yH E yX11_fault cX11_fault 2 (some .int) 0 [.ref (E.2.1 0), .int x1] S (some (.int r.1), r.2) := by
  refine ho_in (by decide) (Nat.le_of_ble_eq_true rfl) ?_
  intro p e s m args below meth c C hR ls hl
  have C : ho_I p s m args meth c RX11 cX11_fault 2 (some .int) := C
  have hl : lv_has ls 2 [(0, .ref (E.2.1 0)), (1, .int x1)] := hl
  unfold f_X11_fault at h
  refine lv_iload_n C.1 C.2.1 dX11_fault_0 rfl (lv_at hl 1 rfl) ?_
  by_cases hc0 : x1 = (0 : Int32)
  · replace h := if_t h hc0
    have hx : (x1).toInt = 0 := by rw [hc0]; decide
    refine lv_lookup (off := 27) (tgt := 28) C.1 C.2.1 dX11_fault_1 (by decide) (by rw [hx]; decide) (by decide) ?_
    refine lv_aload_n C.1 C.2.1 dX11_fault_28 rfl (lv_at hl 0 rfl) ?_
    refine ho_getR (a' := 10) C cf11 fH_RX11_10 hR aH_0 rfl dX11_fault_29 ?_
    refine ho_getI C cf10 fH_RX11_140 hR aH_10 dX11_fault_32 ?_
    exact ho_iret C hR h dX11_fault_35
  · replace h := if_f h hc0
    by_cases hc1 : x1 = (1 : Int32)
    · replace h := if_t h hc1
      have hx : (x1).toInt = 1 := by rw [hc1]; decide
      refine lv_lookup (off := 35) (tgt := 36) C.1 C.2.1 dX11_fault_1 (by decide) (by rw [hx]; decide) (by decide) ?_
      refine lv_aload_n C.1 C.2.1 dX11_fault_36 rfl (lv_at hl 0 rfl) ?_
      refine ho_getR (a' := 10) C cf11 fH_RX11_10 hR aH_0 rfl dX11_fault_37 ?_
      refine ho_getI C cf10 fH_RX11_143 hR aH_10 dX11_fault_40 ?_
      exact ho_iret C hR h dX11_fault_43
    · replace h := if_f h hc1
      refine lv_lookup (off := 43) (tgt := 44) C.1 C.2.1 dX11_fault_1 (by decide) (by show Op.lookupswitch.offset [(0, 27), (1, 35)] _ _ = _; rw [lv_osw hc0 (by decide), lv_osw hc1 (by decide)]; rfl) (by decide) ?_
      refine lv_iconst (v := (-1 : Int32)) C.1 C.2.1 dX11_fault_44 (by decide) ?_
      exact ho_iret C hR h dX11_fault_45
theorem dX11_has_0 : decode cX11_has 0 = .ok (.iload_n 1, 1) := by decide +kernel
theorem dX11_has_1 : decode cX11_has 1 = .ok (.tableswitch 153 0 10 #[59, 69, 79, 89, 97, 105, 113, 124, 132, 140, 148], 59) := by decide +kernel
theorem dX11_has_60 : decode cX11_has 60 = .ok (.aload_n 0, 1) := by decide +kernel
theorem dX11_has_61 : decode cX11_has 61 = .ok (.getfield 19, 3) := by decide +kernel
theorem dX11_has_64 : decode cX11_has 64 = .ok (.getfield 146, 3) := by decide +kernel
theorem dX11_has_67 : decode cX11_has 67 = .ok (.iconst 0, 1) := by decide +kernel
theorem dX11_has_68 : decode cX11_has 68 = .ok (.iaload, 1) := by decide +kernel
theorem dX11_has_69 : decode cX11_has 69 = .ok (.ireturn, 1) := by decide +kernel
theorem dX11_has_70 : decode cX11_has 70 = .ok (.aload_n 0, 1) := by decide +kernel
theorem dX11_has_71 : decode cX11_has 71 = .ok (.getfield 19, 3) := by decide +kernel
theorem dX11_has_74 : decode cX11_has 74 = .ok (.getfield 146, 3) := by decide +kernel
theorem dX11_has_77 : decode cX11_has 77 = .ok (.iconst 1, 1) := by decide +kernel
theorem dX11_has_78 : decode cX11_has 78 = .ok (.iaload, 1) := by decide +kernel
theorem dX11_has_79 : decode cX11_has 79 = .ok (.ireturn, 1) := by decide +kernel
theorem dX11_has_80 : decode cX11_has 80 = .ok (.aload_n 0, 1) := by decide +kernel
theorem dX11_has_81 : decode cX11_has 81 = .ok (.getfield 19, 3) := by decide +kernel
theorem dX11_has_84 : decode cX11_has 84 = .ok (.getfield 146, 3) := by decide +kernel
theorem dX11_has_87 : decode cX11_has 87 = .ok (.iconst 2, 1) := by decide +kernel
theorem dX11_has_88 : decode cX11_has 88 = .ok (.iaload, 1) := by decide +kernel
theorem dX11_has_89 : decode cX11_has 89 = .ok (.ireturn, 1) := by decide +kernel
theorem dX11_has_90 : decode cX11_has 90 = .ok (.aload_n 0, 1) := by decide +kernel
theorem dX11_has_91 : decode cX11_has 91 = .ok (.getfield 79, 3) := by decide +kernel
theorem dX11_has_94 : decode cX11_has 94 = .ok (.getfield 149, 3) := by decide +kernel
theorem dX11_has_97 : decode cX11_has 97 = .ok (.ireturn, 1) := by decide +kernel
theorem dX11_has_98 : decode cX11_has 98 = .ok (.aload_n 0, 1) := by decide +kernel
theorem dX11_has_99 : decode cX11_has 99 = .ok (.getfield 79, 3) := by decide +kernel
theorem dX11_has_102 : decode cX11_has 102 = .ok (.getfield 152, 3) := by decide +kernel
theorem dX11_has_105 : decode cX11_has 105 = .ok (.ireturn, 1) := by decide +kernel
theorem dX11_has_106 : decode cX11_has 106 = .ok (.aload_n 0, 1) := by decide +kernel
theorem dX11_has_107 : decode cX11_has 107 = .ok (.getfield 79, 3) := by decide +kernel
theorem dX11_has_110 : decode cX11_has 110 = .ok (.getfield 155, 3) := by decide +kernel
theorem dX11_has_113 : decode cX11_has 113 = .ok (.ireturn, 1) := by decide +kernel
theorem dX11_has_114 : decode cX11_has 114 = .ok (.aload_n 0, 1) := by decide +kernel
theorem dX11_has_115 : decode cX11_has 115 = .ok (.getfield 79, 3) := by decide +kernel
theorem dX11_has_118 : decode cX11_has 118 = .ok (.invokevirtual 158, 3) := by decide +kernel
theorem dX11_has_121 : decode cX11_has 121 = .ok (.invokestatic 162, 3) := by decide +kernel
theorem dX11_has_124 : decode cX11_has 124 = .ok (.ireturn, 1) := by decide +kernel
theorem dX11_has_125 : decode cX11_has 125 = .ok (.aload_n 0, 1) := by decide +kernel
theorem dX11_has_126 : decode cX11_has 126 = .ok (.getfield 79, 3) := by decide +kernel
theorem dX11_has_129 : decode cX11_has 129 = .ok (.invokevirtual 167, 3) := by decide +kernel
theorem dX11_has_132 : decode cX11_has 132 = .ok (.ireturn, 1) := by decide +kernel
theorem dX11_has_133 : decode cX11_has 133 = .ok (.aload_n 0, 1) := by decide +kernel
theorem dX11_has_134 : decode cX11_has 134 = .ok (.getfield 79, 3) := by decide +kernel
theorem dX11_has_137 : decode cX11_has 137 = .ok (.getfield 170, 3) := by decide +kernel
theorem dX11_has_140 : decode cX11_has 140 = .ok (.ireturn, 1) := by decide +kernel
theorem dX11_has_141 : decode cX11_has 141 = .ok (.aload_n 0, 1) := by decide +kernel
theorem dX11_has_142 : decode cX11_has 142 = .ok (.getfield 65, 3) := by decide +kernel
theorem dX11_has_145 : decode cX11_has 145 = .ok (.getfield 131, 3) := by decide +kernel
theorem dX11_has_148 : decode cX11_has 148 = .ok (.ireturn, 1) := by decide +kernel
theorem dX11_has_149 : decode cX11_has 149 = .ok (.aload_n 0, 1) := by decide +kernel
theorem dX11_has_150 : decode cX11_has 150 = .ok (.getfield 102, 3) := by decide +kernel
theorem dX11_has_153 : decode cX11_has 153 = .ok (.ireturn, 1) := by decide +kernel
theorem dX11_has_154 : decode cX11_has 154 = .ok (.iconst (-1), 1) := by decide +kernel
theorem dX11_has_155 : decode cX11_has 155 = .ok (.ireturn, 1) := by decide +kernel
def f_X11_has (x1 : Int32) (S : Hp) : Option (Int32 × Hp) :=
  if x1 = (0 : Int32) then ldP yH S 0 1 2 (fun p1 => ldI S (p1 + 1) 3 (0 : Int32) (fun v2 => some (v2, S))) else if x1 = (1 : Int32) then ldP yH S 0 1 2 (fun p3 => ldI S (p3 + 1) 3 (1 : Int32) (fun v4 => some (v4, S))) else if x1 = (2 : Int32) then ldP yH S 0 1 2 (fun p5 => ldI S (p5 + 1) 3 (2 : Int32) (fun v6 => some (v6, S))) else if x1 = (3 : Int32) then some ((S.1 1200 0), S) else if x1 = (4 : Int32) then some ((S.1 1200 1), S) else if x1 = (5 : Int32) then some ((S.1 1200 2), S) else if x1 = (6 : Int32) then ob2 (f_X9_seenThrough 1200 S) (fun r7 S7 => ob2 (f_J6_bitCount_0f7a4 r7 S7) (fun r8 S8 => some (r8, S8))) else if x1 = (7 : Int32) then ob2 (f_X9_allStores 1200 S) (fun r9 S9 => some (r9, S9)) else if x1 = (8 : Int32) then some ((S.1 1200 7), S) else if x1 = (9 : Int32) then some ((S.1 70 0), S) else if x1 = (10 : Int32) then some ((S.1 0 15), S) else some ((-1 : Int32), S)
set_option maxHeartbeats 4000000 in
set_option maxRecDepth 100000 in
theorem c_X11_has (l : Launch) (E : Ev) (x1 : Int32) (S : Hp) (r : (Int32 × Hp)) (h : f_X11_has x1 S = some r) : ho_M l yH E yX11_has cX11_has 2 (some .int) 1 [.ref (E.2.1 0), .int x1] S (some (.int r.1), r.2) := by
  refine ho_in (by decide) (Nat.le_of_ble_eq_true rfl) ?_
  intro p e s m args below meth c C hR ls hl
  have C : ho_I p s m args meth c RX11 cX11_has 2 (some .int) := C
  have hl : lv_has ls 2 [(0, .ref (E.2.1 0)), (1, .int x1)] := hl
  unfold f_X11_has at h
  refine lv_iload_n C.1 C.2.1 dX11_has_0 rfl (lv_at hl 1 rfl) ?_
  by_cases hc0 : x1 = (0 : Int32)
  · replace h := if_t h hc0
    have hx : (x1).toInt = 0 := by rw [hc0]; decide
    refine lv_tableIn (off := 59) (tgt := 60) C.1 C.2.1 dX11_has_1 (by rw [hx]; decide) (by rw [hx]; decide) (by rw [hx]; decide) (by decide) ?_
    refine lv_aload_n C.1 C.2.1 dX11_has_60 rfl (lv_at hl 0 rfl) ?_
    obtain ⟨p1, e1, hp1, h⟩ := ldP_ok h
    refine hr_getP C cf11 fH_RX11_19 hR aH_0 e1 dX11_has_61 ?_
    refine ho_getR (a' := (p1 + 1)) C cf2 fH_RX11_146 hR hp1 (pH_2_5 hp1.2) dX11_has_64 ?_
    refine lv_iconst (v := (0 : Int32)) C.1 C.2.1 dX11_has_67 (by decide) ?_
    obtain ⟨v2, e2, hi2, h⟩ := ldI_ok h
    refine hr_ild C hR (rH_2_1 hp1) hi2 e2 dX11_has_68 ?_
    exact ho_iret C hR h dX11_has_69
  · replace h := if_f h hc0
    by_cases hc1 : x1 = (1 : Int32)
    · replace h := if_t h hc1
      have hx : (x1).toInt = 1 := by rw [hc1]; decide
      refine lv_tableIn (off := 69) (tgt := 70) C.1 C.2.1 dX11_has_1 (by rw [hx]; decide) (by rw [hx]; decide) (by rw [hx]; decide) (by decide) ?_
      refine lv_aload_n C.1 C.2.1 dX11_has_70 rfl (lv_at hl 0 rfl) ?_
      obtain ⟨p3, e3, hp3, h⟩ := ldP_ok h
      refine hr_getP C cf11 fH_RX11_19 hR aH_0 e3 dX11_has_71 ?_
      refine ho_getR (a' := (p3 + 1)) C cf2 fH_RX11_146 hR hp3 (pH_2_5 hp3.2) dX11_has_74 ?_
      refine lv_iconst (v := (1 : Int32)) C.1 C.2.1 dX11_has_77 (by decide) ?_
      obtain ⟨v4, e4, hi4, h⟩ := ldI_ok h
      refine hr_ild C hR (rH_2_1 hp3) hi4 e4 dX11_has_78 ?_
      exact ho_iret C hR h dX11_has_79
    · replace h := if_f h hc1
      by_cases hc2 : x1 = (2 : Int32)
      · replace h := if_t h hc2
        have hx : (x1).toInt = 2 := by rw [hc2]; decide
        refine lv_tableIn (off := 79) (tgt := 80) C.1 C.2.1 dX11_has_1 (by rw [hx]; decide) (by rw [hx]; decide) (by rw [hx]; decide) (by decide) ?_
        refine lv_aload_n C.1 C.2.1 dX11_has_80 rfl (lv_at hl 0 rfl) ?_
        obtain ⟨p5, e5, hp5, h⟩ := ldP_ok h
        refine hr_getP C cf11 fH_RX11_19 hR aH_0 e5 dX11_has_81 ?_
        refine ho_getR (a' := (p5 + 1)) C cf2 fH_RX11_146 hR hp5 (pH_2_5 hp5.2) dX11_has_84 ?_
        refine lv_iconst (v := (2 : Int32)) C.1 C.2.1 dX11_has_87 (by decide) ?_
        obtain ⟨v6, e6, hi6, h⟩ := ldI_ok h
        refine hr_ild C hR (rH_2_1 hp5) hi6 e6 dX11_has_88 ?_
        exact ho_iret C hR h dX11_has_89
      · replace h := if_f h hc2
        by_cases hc3 : x1 = (3 : Int32)
        · replace h := if_t h hc3
          have hx : (x1).toInt = 3 := by rw [hc3]; decide
          refine lv_tableIn (off := 89) (tgt := 90) C.1 C.2.1 dX11_has_1 (by rw [hx]; decide) (by rw [hx]; decide) (by rw [hx]; decide) (by decide) ?_
          refine lv_aload_n C.1 C.2.1 dX11_has_90 rfl (lv_at hl 0 rfl) ?_
          refine ho_getR (a' := 1200) C cf11 fH_RX11_79 hR aH_0 rfl dX11_has_91 ?_
          refine ho_getI C cf9 fH_RX11_149 hR aH_1200 dX11_has_94 ?_
          exact ho_iret C hR h dX11_has_97
        · replace h := if_f h hc3
          by_cases hc4 : x1 = (4 : Int32)
          · replace h := if_t h hc4
            have hx : (x1).toInt = 4 := by rw [hc4]; decide
            refine lv_tableIn (off := 97) (tgt := 98) C.1 C.2.1 dX11_has_1 (by rw [hx]; decide) (by rw [hx]; decide) (by rw [hx]; decide) (by decide) ?_
            refine lv_aload_n C.1 C.2.1 dX11_has_98 rfl (lv_at hl 0 rfl) ?_
            refine ho_getR (a' := 1200) C cf11 fH_RX11_79 hR aH_0 rfl dX11_has_99 ?_
            refine ho_getI C cf9 fH_RX11_152 hR aH_1200 dX11_has_102 ?_
            exact ho_iret C hR h dX11_has_105
          · replace h := if_f h hc4
            by_cases hc5 : x1 = (5 : Int32)
            · replace h := if_t h hc5
              have hx : (x1).toInt = 5 := by rw [hc5]; decide
              refine lv_tableIn (off := 105) (tgt := 106) C.1 C.2.1 dX11_has_1 (by rw [hx]; decide) (by rw [hx]; decide) (by rw [hx]; decide) (by decide) ?_
              refine lv_aload_n C.1 C.2.1 dX11_has_106 rfl (lv_at hl 0 rfl) ?_
              refine ho_getR (a' := 1200) C cf11 fH_RX11_79 hR aH_0 rfl dX11_has_107 ?_
              refine ho_getI C cf9 fH_RX11_155 hR aH_1200 dX11_has_110 ?_
              exact ho_iret C hR h dX11_has_113
            · replace h := if_f h hc5
              by_cases hc6 : x1 = (6 : Int32)
              · replace h := if_t h hc6
                have hx : (x1).toInt = 6 := by rw [hc6]; decide
                refine lv_tableIn (off := 113) (tgt := 114) C.1 C.2.1 dX11_has_1 (by rw [hx]; decide) (by rw [hx]; decide) (by rw [hx]; decide) (by decide) ?_
                refine lv_aload_n C.1 C.2.1 dX11_has_114 rfl (lv_at hl 0 rfl) ?_
                refine ho_getR (a' := 1200) C cf11 fH_RX11_79 hR aH_0 rfl dX11_has_115 ?_
                obtain ⟨r7, S7, h7, h⟩ := ob2_ok h
                refine hr_Vi (v := r7) (S' := S7) (As := []) (rest := []) C cf9 (c_X9_seenThrough l E 1200 aH_1200 _ _ h7) yv_X9_seenThrough lk_RX11_158 rfl aH_1200 rfl rfl hl.1 (Nat.le_of_ble_eq_true rfl) (by decide) (by decide) hR (ho_A hR) dX11_has_118 (fun H locs hR => ?_)
                obtain ⟨r8, S8, h8, h⟩ := ob2_ok h
                refine hr_Si (v := r8) (S' := S8) (As := [.int r7]) (rest := []) C (c_J6_bitCount_0f7a4 l E r7 _ _ h8) ys_J6_bitCount_0f7a4 lk_RX11_162 rfl rfl hl.1 (Nat.le_of_ble_eq_true rfl) (by decide) (by decide) hR (ho_A hR) dX11_has_121 (fun H locs hR => ?_)
                exact ho_iret C hR h dX11_has_124
              · replace h := if_f h hc6
                by_cases hc7 : x1 = (7 : Int32)
                · replace h := if_t h hc7
                  have hx : (x1).toInt = 7 := by rw [hc7]; decide
                  refine lv_tableIn (off := 124) (tgt := 125) C.1 C.2.1 dX11_has_1 (by rw [hx]; decide) (by rw [hx]; decide) (by rw [hx]; decide) (by decide) ?_
                  refine lv_aload_n C.1 C.2.1 dX11_has_125 rfl (lv_at hl 0 rfl) ?_
                  refine ho_getR (a' := 1200) C cf11 fH_RX11_79 hR aH_0 rfl dX11_has_126 ?_
                  obtain ⟨r9, S9, h9, h⟩ := ob2_ok h
                  refine hr_Vi (v := r9) (S' := S9) (As := []) (rest := []) C cf9 (c_X9_allStores l E 1200 aH_1200 _ _ h9) yv_X9_allStores lk_RX11_167 rfl aH_1200 rfl rfl hl.1 (Nat.le_of_ble_eq_true rfl) (by decide) (by decide) hR (ho_A hR) dX11_has_129 (fun H locs hR => ?_)
                  exact ho_iret C hR h dX11_has_132
                · replace h := if_f h hc7
                  by_cases hc8 : x1 = (8 : Int32)
                  · replace h := if_t h hc8
                    have hx : (x1).toInt = 8 := by rw [hc8]; decide
                    refine lv_tableIn (off := 132) (tgt := 133) C.1 C.2.1 dX11_has_1 (by rw [hx]; decide) (by rw [hx]; decide) (by rw [hx]; decide) (by decide) ?_
                    refine lv_aload_n C.1 C.2.1 dX11_has_133 rfl (lv_at hl 0 rfl) ?_
                    refine ho_getR (a' := 1200) C cf11 fH_RX11_79 hR aH_0 rfl dX11_has_134 ?_
                    refine ho_getI C cf9 fH_RX11_170 hR aH_1200 dX11_has_137 ?_
                    exact ho_iret C hR h dX11_has_140
                  · replace h := if_f h hc8
                    by_cases hc9 : x1 = (9 : Int32)
                    · replace h := if_t h hc9
                      have hx : (x1).toInt = 9 := by rw [hc9]; decide
                      refine lv_tableIn (off := 140) (tgt := 141) C.1 C.2.1 dX11_has_1 (by rw [hx]; decide) (by rw [hx]; decide) (by rw [hx]; decide) (by decide) ?_
                      refine lv_aload_n C.1 C.2.1 dX11_has_141 rfl (lv_at hl 0 rfl) ?_
                      refine ho_getR (a' := 70) C cf11 fH_RX11_65 hR aH_0 rfl dX11_has_142 ?_
                      refine ho_getI C cf1 fH_RX11_131 hR aH_70 dX11_has_145 ?_
                      exact ho_iret C hR h dX11_has_148
                    · replace h := if_f h hc9
                      by_cases hc10 : x1 = (10 : Int32)
                      · replace h := if_t h hc10
                        have hx : (x1).toInt = 10 := by rw [hc10]; decide
                        refine lv_tableIn (off := 148) (tgt := 149) C.1 C.2.1 dX11_has_1 (by rw [hx]; decide) (by rw [hx]; decide) (by rw [hx]; decide) (by decide) ?_
                        refine lv_aload_n C.1 C.2.1 dX11_has_149 rfl (lv_at hl 0 rfl) ?_
                        refine ho_getI C cf11 fH_RX11_102 hR aH_0 dX11_has_150 ?_
                        exact ho_iret C hR h dX11_has_153
                      · replace h := if_f h hc10
                        have hx0 := lv_neT hc0 (a := 0) (by decide)
                        have hx1 := lv_neT hc1 (a := 1) (by decide)
                        have hx2 := lv_neT hc2 (a := 2) (by decide)
                        have hx3 := lv_neT hc3 (a := 3) (by decide)
                        have hx4 := lv_neT hc4 (a := 4) (by decide)
                        have hx5 := lv_neT hc5 (a := 5) (by decide)
                        have hx6 := lv_neT hc6 (a := 6) (by decide)
                        have hx7 := lv_neT hc7 (a := 7) (by decide)
                        have hx8 := lv_neT hc8 (a := 8) (by decide)
                        have hx9 := lv_neT hc9 (a := 9) (by decide)
                        have hx10 := lv_neT hc10 (a := 10) (by decide)
                        refine lv_tableOut (tgt := 154) C.1 C.2.1 dX11_has_1 (by omega) (by decide) ?_
                        refine lv_iconst (v := (-1 : Int32)) C.1 C.2.1 dX11_has_154 (by decide) ?_
                        exact ho_iret C hR h dX11_has_155
theorem dX11_letter_0 : decode cX11_letter 0 = .ok (.iload_n 1, 1) := by decide +kernel
theorem dX11_letter_1 : decode cX11_letter 1 = .ok (.ifCond .lt 30, 3) := by decide +kernel
theorem dX11_letter_4 : decode cX11_letter 4 = .ok (.iload_n 1, 1) := by decide +kernel
theorem dX11_letter_5 : decode cX11_letter 5 = .ok (.iconst 3, 1) := by decide +kernel
theorem dX11_letter_6 : decode cX11_letter 6 = .ok (.if_icmp .ge 25, 3) := by decide +kernel
theorem dX11_letter_9 : decode cX11_letter 9 = .ok (.aload_n 0, 1) := by decide +kernel
theorem dX11_letter_10 : decode cX11_letter 10 = .ok (.getfield 19, 3) := by decide +kernel
theorem dX11_letter_13 : decode cX11_letter 13 = .ok (.iload_n 1, 1) := by decide +kernel
theorem dX11_letter_14 : decode cX11_letter 14 = .ok (.iload_n 2, 1) := by decide +kernel
theorem dX11_letter_15 : decode cX11_letter 15 = .ok (.invokevirtual 173, 3) := by decide +kernel
theorem dX11_letter_18 : decode cX11_letter 18 = .ok (.ifCond .eq 13, 3) := by decide +kernel
theorem dX11_letter_21 : decode cX11_letter 21 = .ok (.iload_n 3, 1) := by decide +kernel
theorem dX11_letter_22 : decode cX11_letter 22 = .ok (.ifCond .lt 9, 3) := by decide +kernel
theorem dX11_letter_25 : decode cX11_letter 25 = .ok (.iload_n 3, 1) := by decide +kernel
theorem dX11_letter_26 : decode cX11_letter 26 = .ok (.bipush 6, 2) := by decide +kernel
theorem dX11_letter_28 : decode cX11_letter 28 = .ok (.if_icmp .lt 5, 3) := by decide +kernel
theorem dX11_letter_31 : decode cX11_letter 31 = .ok (.iconst (-1), 1) := by decide +kernel
theorem dX11_letter_32 : decode cX11_letter 32 = .ok (.ireturn, 1) := by decide +kernel
theorem dX11_letter_33 : decode cX11_letter 33 = .ok (.aload_n 0, 1) := by decide +kernel
theorem dX11_letter_34 : decode cX11_letter 34 = .ok (.getfield 19, 3) := by decide +kernel
theorem dX11_letter_37 : decode cX11_letter 37 = .ok (.getfield 177, 3) := by decide +kernel
theorem dX11_letter_40 : decode cX11_letter 40 = .ok (.iload_n 1, 1) := by decide +kernel
theorem dX11_letter_41 : decode cX11_letter 41 = .ok (.aaload, 1) := by decide +kernel
theorem dX11_letter_42 : decode cX11_letter 42 = .ok (.iload_n 2, 1) := by decide +kernel
theorem dX11_letter_43 : decode cX11_letter 43 = .ok (.iaload, 1) := by decide +kernel
theorem dX11_letter_44 : decode cX11_letter 44 = .ok (.istore 4, 2) := by decide +kernel
theorem dX11_letter_46 : decode cX11_letter 46 = .ok (.iload_n 3, 1) := by decide +kernel
theorem dX11_letter_47 : decode cX11_letter 47 = .ok (.iconst 1, 1) := by decide +kernel
theorem dX11_letter_48 : decode cX11_letter 48 = .ok (.iadd, 1) := by decide +kernel
theorem dX11_letter_49 : decode cX11_letter 49 = .ok (.istore 5, 2) := by decide +kernel
theorem dX11_letter_51 : decode cX11_letter 51 = .ok (.iload 5, 2) := by decide +kernel
theorem dX11_letter_53 : decode cX11_letter 53 = .ok (.bipush 6, 2) := by decide +kernel
theorem dX11_letter_55 : decode cX11_letter 55 = .ok (.if_icmp .ge 16, 3) := by decide +kernel
theorem dX11_letter_58 : decode cX11_letter 58 = .ok (.iload 4, 2) := by decide +kernel
theorem dX11_letter_60 : decode cX11_letter 60 = .ok (.bipush 27, 2) := by decide +kernel
theorem dX11_letter_62 : decode cX11_letter 62 = .ok (.idiv, 1) := by decide +kernel
theorem dX11_letter_63 : decode cX11_letter 63 = .ok (.istore 4, 2) := by decide +kernel
theorem dX11_letter_65 : decode cX11_letter 65 = .ok (.iinc 5 1, 3) := by decide +kernel
theorem dX11_letter_68 : decode cX11_letter 68 = .ok (.goto (-17), 3) := by decide +kernel
theorem dX11_letter_71 : decode cX11_letter 71 = .ok (.iload 4, 2) := by decide +kernel
theorem dX11_letter_73 : decode cX11_letter 73 = .ok (.bipush 27, 2) := by decide +kernel
theorem dX11_letter_75 : decode cX11_letter 75 = .ok (.irem, 1) := by decide +kernel
theorem dX11_letter_76 : decode cX11_letter 76 = .ok (.ireturn, 1) := by decide +kernel
def f_X11_letter_51 : Nat → Int32 → Int32 → Hp → Option (Int32 × Hp)
  | 0, _, _, _ => none
  | k + 1, x4, x5, S => if (6 : Int32) ≤ x5 then some ((x4 - x4 / (27 : Int32) * (27 : Int32)), S) else le1 (x4 / (27 : Int32)) (fun v1 => le1 (x5 + (1 : Int32)) (fun v2 => f_X11_letter_51 k v1 v2 S))
set_option maxHeartbeats 4000000 in
set_option maxRecDepth 100000 in
theorem w_X11_letter_51 {p : Program} {l : Launch} {e : Env} {s : State} {m : MethodId} {args : Array Value} {below : List Frame} {meth : Method} {c : Code} {E : Ev} {S0 : Hp} {r : (Int32 × Hp)} (C : ho_I p s m args meth c RX11 cX11_letter 6 (some .int)) :
    ∀ (k : Nat) (x4 : Int32) (x5 : Int32) (S : Hp), f_X11_letter_51 k x4 x5 S = some r → ho_G p l e s m args below meth c yH E S0 1 6 (some (.int r.1), r.2) 51 [(4, .int x4), (5, .int x5)] [] S := by
  intro k
  induction k with
  | zero =>
    intro x4 x5 S h
    exact absurd (show (none : Option (Int32 × Hp)) = some r from h) (by simp)
  | succ k ih =>
    intro x4 x5 S h H locs ls hR hl
    rw [f_X11_letter_51] at h
    refine lv_iload C.1 C.2.1 dX11_letter_51 (lv_at hl 1 rfl) ?_
    refine lv_bipush (v := (6 : Int32)) C.1 C.2.1 dX11_letter_53 (by decide) ?_
    refine lv_icmp_ge (tgt := 71) C.1 C.2.1 dX11_letter_55 (by decide) (fun hc => ?_) (fun hc => ?_)
    · replace h := if_t h hc
      refine lv_iload C.1 C.2.1 dX11_letter_71 (lv_at hl 0 rfl) ?_
      refine lv_bipush (v := (27 : Int32)) C.1 C.2.1 dX11_letter_73 (by decide) ?_
      refine lv_irem C.1 C.2.1 dX11_letter_75 (by decide) ?_
      exact ho_iret C hR h dX11_letter_76
    · replace h := if_f h hc
      refine lv_iload C.1 C.2.1 dX11_letter_58 (lv_at hl 0 rfl) ?_
      refine lv_bipush (v := (27 : Int32)) C.1 C.2.1 dX11_letter_60 (by decide) ?_
      refine lv_idiv C.1 C.2.1 dX11_letter_62 (by decide) ?_
      refine lv_topi (fun v1 e1 => ?_)
      replace h := le1_at e1 h
      refine lv_istore (lv' := [(4, .int v1), (5, .int x5)]) C.1 C.2.1 dX11_letter_63 hl (by decide) rfl (fun ls hl => ?_)
      obtain ⟨v2, e2, h⟩ := le1_ok h
      refine lv_iinc (v := v2) (lv' := [(5, .int v2), (4, .int v1)]) C.1 C.2.1 dX11_letter_65 hl (k := 1) rfl (by rw [e2]; rfl) (by decide) rfl (fun ls hl => ?_)
      refine lv_goto (tgt := 51) C.1 C.2.1 dX11_letter_68 (by decide) ?_
      exact ih v1 v2 S h _ _ _ hR (lv_sub hl [1, 0] rfl)
def f_X11_letter (x1 : Int32) (x2 : Int32) (x3 : Int32) (S : Hp) : Option (Int32 × Hp) :=
  if x1 < 0 then some ((-1 : Int32), S) else if (3 : Int32) ≤ x1 then some ((-1 : Int32), S) else ldP yH S 0 1 2 (fun p1 => ob2 (f_X2_holds p1 x1 x2 S) (fun r2 S2 => if r2 = 0 then some ((-1 : Int32), S2) else if x3 < 0 then some ((-1 : Int32), S2) else if x3 < (6 : Int32) then ldP yH S2 0 1 2 (fun p3 => ldR yH (p3 + 2) 3 x1 4 6 (fun p4 => ldI S2 p4 6 x2 (fun v5 => le1 (x3 + (1 : Int32)) (fun v6 => f_X11_letter_51 5000 v5 v6 S2)))) else some ((-1 : Int32), S2)))
set_option maxHeartbeats 4000000 in
set_option maxRecDepth 100000 in
theorem c_X11_letter (l : Launch) (E : Ev) (x1 : Int32) (x2 : Int32) (x3 : Int32) (S : Hp) (r : (Int32 × Hp)) (h : f_X11_letter x1 x2 x3 S = some r) : ho_M l yH E yX11_letter cX11_letter 6 (some .int) 1 [.ref (E.2.1 0), .int x1, .int x2, .int x3] S (some (.int r.1), r.2) := by
  refine ho_in (by decide) (Nat.le_of_ble_eq_true rfl) ?_
  intro p e s m args below meth c C hR ls hl
  have C : ho_I p s m args meth c RX11 cX11_letter 6 (some .int) := C
  have hl : lv_has ls 6 [(0, .ref (E.2.1 0)), (1, .int x1), (2, .int x2), (3, .int x3)] := hl
  unfold f_X11_letter at h
  refine lv_iload_n C.1 C.2.1 dX11_letter_0 rfl (lv_at hl 1 rfl) ?_
  refine lv_if_lt (tgt := 31) C.1 C.2.1 dX11_letter_1 (by decide) (fun hc => ?_) (fun hc => ?_)
  · replace h := if_t h hc
    refine lv_iconst (v := (-1 : Int32)) C.1 C.2.1 dX11_letter_31 (by decide) ?_
    exact ho_iret C hR h dX11_letter_32
  · replace h := if_f h hc
    refine lv_iload_n C.1 C.2.1 dX11_letter_4 rfl (lv_at hl 1 rfl) ?_
    refine lv_iconst (v := (3 : Int32)) C.1 C.2.1 dX11_letter_5 (by decide) ?_
    refine lv_icmp_ge (tgt := 31) C.1 C.2.1 dX11_letter_6 (by decide) (fun hc => ?_) (fun hc => ?_)
    · replace h := if_t h hc
      refine lv_iconst (v := (-1 : Int32)) C.1 C.2.1 dX11_letter_31 (by decide) ?_
      exact ho_iret C hR h dX11_letter_32
    · replace h := if_f h hc
      refine lv_aload_n C.1 C.2.1 dX11_letter_9 rfl (lv_at hl 0 rfl) ?_
      obtain ⟨p1, e1, hp1, h⟩ := ldP_ok h
      refine hr_getP C cf11 fH_RX11_19 hR aH_0 e1 dX11_letter_10 ?_
      refine lv_iload_n C.1 C.2.1 dX11_letter_13 rfl (lv_at hl 1 rfl) ?_
      refine lv_iload_n C.1 C.2.1 dX11_letter_14 rfl (lv_at hl 2 rfl) ?_
      obtain ⟨r2, S2, h2, h⟩ := ob2_ok h
      refine hr_Vi (v := r2) (S' := S2) (As := [.int x1, .int x2]) (rest := []) C cf2 (c_X2_holds l E p1 x1 x2 hp1 _ _ h2) yv_X2_holds lk_RX11_173 rfl hp1 rfl rfl hl.1 (Nat.le_of_ble_eq_true rfl) (by decide) (by decide) hR (ho_A hR) dX11_letter_15 (fun H locs hR => ?_)
      refine lv_if_eq (tgt := 31) C.1 C.2.1 dX11_letter_18 (by decide) (fun hc => ?_) (fun hc => ?_)
      · replace h := if_t h hc
        refine lv_iconst (v := (-1 : Int32)) C.1 C.2.1 dX11_letter_31 (by decide) ?_
        exact ho_iret C hR h dX11_letter_32
      · replace h := if_f h hc
        refine lv_iload_n C.1 C.2.1 dX11_letter_21 rfl (lv_at hl 3 rfl) ?_
        refine lv_if_lt (tgt := 31) C.1 C.2.1 dX11_letter_22 (by decide) (fun hc => ?_) (fun hc => ?_)
        · replace h := if_t h hc
          refine lv_iconst (v := (-1 : Int32)) C.1 C.2.1 dX11_letter_31 (by decide) ?_
          exact ho_iret C hR h dX11_letter_32
        · replace h := if_f h hc
          refine lv_iload_n C.1 C.2.1 dX11_letter_25 rfl (lv_at hl 3 rfl) ?_
          refine lv_bipush (v := (6 : Int32)) C.1 C.2.1 dX11_letter_26 (by decide) ?_
          refine lv_icmp_lt (tgt := 33) C.1 C.2.1 dX11_letter_28 (by decide) (fun hc => ?_) (fun hc => ?_)
          · replace h := if_t h hc
            refine lv_aload_n C.1 C.2.1 dX11_letter_33 rfl (lv_at hl 0 rfl) ?_
            obtain ⟨p3, e3, hp3, h⟩ := ldP_ok h
            refine hr_getP C cf11 fH_RX11_19 hR aH_0 e3 dX11_letter_34 ?_
            refine ho_getR (a' := (p3 + 2)) C cf2 fH_RX11_177 hR hp3 (pH_2_6 hp3.2) dX11_letter_37 ?_
            refine lv_iload_n C.1 C.2.1 dX11_letter_40 rfl (lv_at hl 1 rfl) ?_
            obtain ⟨p4, e4, hi4, hp4, h⟩ := ldR_ok h
            refine hr_rld C hR (rH_2_2 hp3) hi4 e4 dX11_letter_41 ?_
            refine lv_iload_n C.1 C.2.1 dX11_letter_42 rfl (lv_at hl 2 rfl) ?_
            obtain ⟨v5, e5, hi5, h⟩ := ldI_ok h
            refine hr_ild C hR hp4 hi5 e5 dX11_letter_43 ?_
            refine lv_istore (lv' := [(4, .int v5), (0, .ref (E.2.1 0)), (1, .int x1), (2, .int x2), (3, .int x3)]) C.1 C.2.1 dX11_letter_44 hl (by decide) rfl (fun ls hl => ?_)
            refine lv_iload_n C.1 C.2.1 dX11_letter_46 rfl (lv_at hl 4 rfl) ?_
            refine lv_iconst (v := (1 : Int32)) C.1 C.2.1 dX11_letter_47 (by decide) ?_
            refine lv_iadd C.1 C.2.1 dX11_letter_48 ?_
            refine lv_topi (fun v6 e6 => ?_)
            replace h := le1_at e6 h
            refine lv_istore (lv' := [(5, .int v6), (4, .int v5), (0, .ref (E.2.1 0)), (1, .int x1), (2, .int x2), (3, .int x3)]) C.1 C.2.1 dX11_letter_49 hl (by decide) rfl (fun ls hl => ?_)
            exact w_X11_letter_51 C 5000 v5 v6 S2 h _ _ _ hR (lv_sub hl [1, 0] rfl)
          · replace h := if_f h hc
            refine lv_iconst (v := (-1 : Int32)) C.1 C.2.1 dX11_letter_31 (by decide) ?_
            exact ho_iret C hR h dX11_letter_32
theorem dX11_province_0 : decode cX11_province 0 = .ok (.aload_n 0, 1) := by decide +kernel
theorem dX11_province_1 : decode cX11_province 1 = .ok (.getfield 19, 3) := by decide +kernel
theorem dX11_province_4 : decode cX11_province 4 = .ok (.iconst 0, 1) := by decide +kernel
theorem dX11_province_5 : decode cX11_province 5 = .ok (.iload_n 1, 1) := by decide +kernel
theorem dX11_province_6 : decode cX11_province 6 = .ok (.invokevirtual 173, 3) := by decide +kernel
theorem dX11_province_9 : decode cX11_province 9 = .ok (.ifCond .ne 5, 3) := by decide +kernel
theorem dX11_province_12 : decode cX11_province 12 = .ok (.iconst (-1), 1) := by decide +kernel
theorem dX11_province_13 : decode cX11_province 13 = .ok (.ireturn, 1) := by decide +kernel
theorem dX11_province_14 : decode cX11_province 14 = .ok (.iload_n 2, 1) := by decide +kernel
theorem dX11_province_15 : decode cX11_province 15 = .ok (.tableswitch 54 0 2 #[25, 35, 45], 25) := by decide +kernel
theorem dX11_province_40 : decode cX11_province 40 = .ok (.aload_n 0, 1) := by decide +kernel
theorem dX11_province_41 : decode cX11_province 41 = .ok (.getfield 79, 3) := by decide +kernel
theorem dX11_province_44 : decode cX11_province 44 = .ok (.getfield 181, 3) := by decide +kernel
theorem dX11_province_47 : decode cX11_province 47 = .ok (.iload_n 1, 1) := by decide +kernel
theorem dX11_province_48 : decode cX11_province 48 = .ok (.iaload, 1) := by decide +kernel
theorem dX11_province_49 : decode cX11_province 49 = .ok (.ireturn, 1) := by decide +kernel
theorem dX11_province_50 : decode cX11_province 50 = .ok (.aload_n 0, 1) := by decide +kernel
theorem dX11_province_51 : decode cX11_province 51 = .ok (.getfield 19, 3) := by decide +kernel
theorem dX11_province_54 : decode cX11_province 54 = .ok (.getfield 184, 3) := by decide +kernel
theorem dX11_province_57 : decode cX11_province 57 = .ok (.iload_n 1, 1) := by decide +kernel
theorem dX11_province_58 : decode cX11_province 58 = .ok (.iaload, 1) := by decide +kernel
theorem dX11_province_59 : decode cX11_province 59 = .ok (.ireturn, 1) := by decide +kernel
theorem dX11_province_60 : decode cX11_province 60 = .ok (.aload_n 0, 1) := by decide +kernel
theorem dX11_province_61 : decode cX11_province 61 = .ok (.getfield 19, 3) := by decide +kernel
theorem dX11_province_64 : decode cX11_province 64 = .ok (.iload_n 1, 1) := by decide +kernel
theorem dX11_province_65 : decode cX11_province 65 = .ok (.invokevirtual 187, 3) := by decide +kernel
theorem dX11_province_68 : decode cX11_province 68 = .ok (.ireturn, 1) := by decide +kernel
theorem dX11_province_69 : decode cX11_province 69 = .ok (.iconst (-1), 1) := by decide +kernel
theorem dX11_province_70 : decode cX11_province 70 = .ok (.ireturn, 1) := by decide +kernel
def f_X11_province (x1 : Int32) (x2 : Int32) (S : Hp) : Option (Int32 × Hp) :=
  ldP yH S 0 1 2 (fun p1 => ob2 (f_X2_holds p1 (0 : Int32) x1 S) (fun r2 S2 => if r2 = 0 then some ((-1 : Int32), S2) else if x2 = (0 : Int32) then ldI S2 1201 6 x1 (fun v3 => some (v3, S2)) else if x2 = (1 : Int32) then ldP yH S2 0 1 2 (fun p4 => ldI S2 (p4 + 7) 6 x1 (fun v5 => some (v5, S2))) else if x2 = (2 : Int32) then ldP yH S2 0 1 2 (fun p6 => ob2 (f_X2_tricksFrom p6 x1 S2) (fun r7 S7 => some (r7, S7))) else some ((-1 : Int32), S2)))
set_option maxHeartbeats 4000000 in
set_option maxRecDepth 100000 in
theorem c_X11_province (l : Launch) (E : Ev) (x1 : Int32) (x2 : Int32) (S : Hp) (r : (Int32 × Hp)) (h : f_X11_province x1 x2 S = some r) : ho_M l yH E yX11_province cX11_province 3 (some .int) 1 [.ref (E.2.1 0), .int x1, .int x2] S (some (.int r.1), r.2) := by
  refine ho_in (by decide) (Nat.le_of_ble_eq_true rfl) ?_
  intro p e s m args below meth c C hR ls hl
  have C : ho_I p s m args meth c RX11 cX11_province 3 (some .int) := C
  have hl : lv_has ls 3 [(0, .ref (E.2.1 0)), (1, .int x1), (2, .int x2)] := hl
  unfold f_X11_province at h
  refine lv_aload_n C.1 C.2.1 dX11_province_0 rfl (lv_at hl 0 rfl) ?_
  obtain ⟨p1, e1, hp1, h⟩ := ldP_ok h
  refine hr_getP C cf11 fH_RX11_19 hR aH_0 e1 dX11_province_1 ?_
  refine lv_iconst (v := (0 : Int32)) C.1 C.2.1 dX11_province_4 (by decide) ?_
  refine lv_iload_n C.1 C.2.1 dX11_province_5 rfl (lv_at hl 1 rfl) ?_
  obtain ⟨r2, S2, h2, h⟩ := ob2_ok h
  refine hr_Vi (v := r2) (S' := S2) (As := [.int (0 : Int32), .int x1]) (rest := []) C cf2 (c_X2_holds l E p1 (0 : Int32) x1 hp1 _ _ h2) yv_X2_holds lk_RX11_173 rfl hp1 rfl rfl hl.1 (Nat.le_of_ble_eq_true rfl) (by decide) (by decide) hR (ho_A hR) dX11_province_6 (fun H locs hR => ?_)
  refine lv_if_ne (tgt := 14) C.1 C.2.1 dX11_province_9 (by decide) (fun hc => ?_) (fun hc => ?_)
  · replace h := if_f h hc
    refine lv_iload_n C.1 C.2.1 dX11_province_14 rfl (lv_at hl 2 rfl) ?_
    by_cases hc0 : x2 = (0 : Int32)
    · replace h := if_t h hc0
      have hx : (x2).toInt = 0 := by rw [hc0]; decide
      refine lv_tableIn (off := 25) (tgt := 40) C.1 C.2.1 dX11_province_15 (by rw [hx]; decide) (by rw [hx]; decide) (by rw [hx]; decide) (by decide) ?_
      refine lv_aload_n C.1 C.2.1 dX11_province_40 rfl (lv_at hl 0 rfl) ?_
      refine ho_getR (a' := 1200) C cf11 fH_RX11_79 hR aH_0 rfl dX11_province_41 ?_
      refine ho_getR (a' := 1201) C cf9 fH_RX11_181 hR aH_1200 rfl dX11_province_44 ?_
      refine lv_iload_n C.1 C.2.1 dX11_province_47 rfl (lv_at hl 1 rfl) ?_
      obtain ⟨v3, e3, hi3, h⟩ := ldI_ok h
      refine hr_ild C hR aH_1201 hi3 e3 dX11_province_48 ?_
      exact ho_iret C hR h dX11_province_49
    · replace h := if_f h hc0
      by_cases hc1 : x2 = (1 : Int32)
      · replace h := if_t h hc1
        have hx : (x2).toInt = 1 := by rw [hc1]; decide
        refine lv_tableIn (off := 35) (tgt := 50) C.1 C.2.1 dX11_province_15 (by rw [hx]; decide) (by rw [hx]; decide) (by rw [hx]; decide) (by decide) ?_
        refine lv_aload_n C.1 C.2.1 dX11_province_50 rfl (lv_at hl 0 rfl) ?_
        obtain ⟨p4, e4, hp4, h⟩ := ldP_ok h
        refine hr_getP C cf11 fH_RX11_19 hR aH_0 e4 dX11_province_51 ?_
        refine ho_getR (a' := (p4 + 7)) C cf2 fH_RX11_184 hR hp4 (pH_2_8 hp4.2) dX11_province_54 ?_
        refine lv_iload_n C.1 C.2.1 dX11_province_57 rfl (lv_at hl 1 rfl) ?_
        obtain ⟨v5, e5, hi5, h⟩ := ldI_ok h
        refine hr_ild C hR (rH_2_7 hp4) hi5 e5 dX11_province_58 ?_
        exact ho_iret C hR h dX11_province_59
      · replace h := if_f h hc1
        by_cases hc2 : x2 = (2 : Int32)
        · replace h := if_t h hc2
          have hx : (x2).toInt = 2 := by rw [hc2]; decide
          refine lv_tableIn (off := 45) (tgt := 60) C.1 C.2.1 dX11_province_15 (by rw [hx]; decide) (by rw [hx]; decide) (by rw [hx]; decide) (by decide) ?_
          refine lv_aload_n C.1 C.2.1 dX11_province_60 rfl (lv_at hl 0 rfl) ?_
          obtain ⟨p6, e6, hp6, h⟩ := ldP_ok h
          refine hr_getP C cf11 fH_RX11_19 hR aH_0 e6 dX11_province_61 ?_
          refine lv_iload_n C.1 C.2.1 dX11_province_64 rfl (lv_at hl 1 rfl) ?_
          obtain ⟨r7, S7, h7, h⟩ := ob2_ok h
          refine hr_Vi (v := r7) (S' := S7) (As := [.int x1]) (rest := []) C cf2 (c_X2_tricksFrom l E p6 x1 hp6 _ _ h7) yv_X2_tricksFrom lk_RX11_187 rfl hp6 rfl rfl hl.1 (Nat.le_of_ble_eq_true rfl) (by decide) (by decide) hR (ho_A hR) dX11_province_65 (fun H locs hR => ?_)
          exact ho_iret C hR h dX11_province_68
        · replace h := if_f h hc2
          have hx0 := lv_neT hc0 (a := 0) (by decide)
          have hx1 := lv_neT hc1 (a := 1) (by decide)
          have hx2 := lv_neT hc2 (a := 2) (by decide)
          refine lv_tableOut (tgt := 69) C.1 C.2.1 dX11_province_15 (by omega) (by decide) ?_
          refine lv_iconst (v := (-1 : Int32)) C.1 C.2.1 dX11_province_69 (by decide) ?_
          exact ho_iret C hR h dX11_province_70
  · replace h := if_t h hc
    refine lv_iconst (v := (-1 : Int32)) C.1 C.2.1 dX11_province_12 (by decide) ?_
    exact ho_iret C hR h dX11_province_13
theorem dX11_trick_0 : decode cX11_trick 0 = .ok (.aload_n 0, 1) := by decide +kernel
theorem dX11_trick_1 : decode cX11_trick 1 = .ok (.getfield 19, 3) := by decide +kernel
theorem dX11_trick_4 : decode cX11_trick 4 = .ok (.iconst 1, 1) := by decide +kernel
theorem dX11_trick_5 : decode cX11_trick 5 = .ok (.iload_n 1, 1) := by decide +kernel
theorem dX11_trick_6 : decode cX11_trick 6 = .ok (.invokevirtual 173, 3) := by decide +kernel
theorem dX11_trick_9 : decode cX11_trick 9 = .ok (.ifCond .ne 5, 3) := by decide +kernel
theorem dX11_trick_12 : decode cX11_trick 12 = .ok (.iconst (-1), 1) := by decide +kernel
theorem dX11_trick_13 : decode cX11_trick 13 = .ok (.ireturn, 1) := by decide +kernel
theorem dX11_trick_14 : decode cX11_trick 14 = .ok (.iload_n 2, 1) := by decide +kernel
theorem dX11_trick_15 : decode cX11_trick 15 = .ok (.tableswitch 100 0 5 #[37, 47, 57, 67, 77, 87], 37) := by decide +kernel
theorem dX11_trick_52 : decode cX11_trick 52 = .ok (.aload_n 0, 1) := by decide +kernel
theorem dX11_trick_53 : decode cX11_trick 53 = .ok (.getfield 19, 3) := by decide +kernel
theorem dX11_trick_56 : decode cX11_trick 56 = .ok (.getfield 190, 3) := by decide +kernel
theorem dX11_trick_59 : decode cX11_trick 59 = .ok (.iload_n 1, 1) := by decide +kernel
theorem dX11_trick_60 : decode cX11_trick 60 = .ok (.iaload, 1) := by decide +kernel
theorem dX11_trick_61 : decode cX11_trick 61 = .ok (.ireturn, 1) := by decide +kernel
theorem dX11_trick_62 : decode cX11_trick 62 = .ok (.aload_n 0, 1) := by decide +kernel
theorem dX11_trick_63 : decode cX11_trick 63 = .ok (.getfield 19, 3) := by decide +kernel
theorem dX11_trick_66 : decode cX11_trick 66 = .ok (.getfield 193, 3) := by decide +kernel
theorem dX11_trick_69 : decode cX11_trick 69 = .ok (.iload_n 1, 1) := by decide +kernel
theorem dX11_trick_70 : decode cX11_trick 70 = .ok (.iaload, 1) := by decide +kernel
theorem dX11_trick_71 : decode cX11_trick 71 = .ok (.ireturn, 1) := by decide +kernel
theorem dX11_trick_72 : decode cX11_trick 72 = .ok (.aload_n 0, 1) := by decide +kernel
theorem dX11_trick_73 : decode cX11_trick 73 = .ok (.getfield 19, 3) := by decide +kernel
theorem dX11_trick_76 : decode cX11_trick 76 = .ok (.getfield 196, 3) := by decide +kernel
theorem dX11_trick_79 : decode cX11_trick 79 = .ok (.iload_n 1, 1) := by decide +kernel
theorem dX11_trick_80 : decode cX11_trick 80 = .ok (.iaload, 1) := by decide +kernel
theorem dX11_trick_81 : decode cX11_trick 81 = .ok (.ireturn, 1) := by decide +kernel
theorem dX11_trick_82 : decode cX11_trick 82 = .ok (.aload_n 0, 1) := by decide +kernel
theorem dX11_trick_83 : decode cX11_trick 83 = .ok (.getfield 79, 3) := by decide +kernel
theorem dX11_trick_86 : decode cX11_trick 86 = .ok (.getfield 199, 3) := by decide +kernel
theorem dX11_trick_89 : decode cX11_trick 89 = .ok (.iload_n 1, 1) := by decide +kernel
theorem dX11_trick_90 : decode cX11_trick 90 = .ok (.iaload, 1) := by decide +kernel
theorem dX11_trick_91 : decode cX11_trick 91 = .ok (.ireturn, 1) := by decide +kernel
theorem dX11_trick_92 : decode cX11_trick 92 = .ok (.aload_n 0, 1) := by decide +kernel
theorem dX11_trick_93 : decode cX11_trick 93 = .ok (.getfield 79, 3) := by decide +kernel
theorem dX11_trick_96 : decode cX11_trick 96 = .ok (.getfield 202, 3) := by decide +kernel
theorem dX11_trick_99 : decode cX11_trick 99 = .ok (.iload_n 1, 1) := by decide +kernel
theorem dX11_trick_100 : decode cX11_trick 100 = .ok (.iaload, 1) := by decide +kernel
theorem dX11_trick_101 : decode cX11_trick 101 = .ok (.ireturn, 1) := by decide +kernel
theorem dX11_trick_102 : decode cX11_trick 102 = .ok (.aload_n 0, 1) := by decide +kernel
theorem dX11_trick_103 : decode cX11_trick 103 = .ok (.getfield 49, 3) := by decide +kernel
theorem dX11_trick_106 : decode cX11_trick 106 = .ok (.aload_n 0, 1) := by decide +kernel
theorem dX11_trick_107 : decode cX11_trick 107 = .ok (.getfield 79, 3) := by decide +kernel
theorem dX11_trick_110 : decode cX11_trick 110 = .ok (.iload_n 1, 1) := by decide +kernel
theorem dX11_trick_111 : decode cX11_trick 111 = .ok (.invokevirtual 205, 3) := by decide +kernel
theorem dX11_trick_114 : decode cX11_trick 114 = .ok (.ireturn, 1) := by decide +kernel
theorem dX11_trick_115 : decode cX11_trick 115 = .ok (.iconst (-1), 1) := by decide +kernel
theorem dX11_trick_116 : decode cX11_trick 116 = .ok (.ireturn, 1) := by decide +kernel
def f_X11_trick (x1 : Int32) (x2 : Int32) (S : Hp) : Option (Int32 × Hp) :=
  ldP yH S 0 1 2 (fun p1 => ob2 (f_X2_holds p1 (1 : Int32) x1 S) (fun r2 S2 => if r2 = 0 then some ((-1 : Int32), S2) else if x2 = (0 : Int32) then ldP yH S2 0 1 2 (fun p3 => ldI S2 (p3 + 8) 6 x1 (fun v4 => some (v4, S2))) else if x2 = (1 : Int32) then ldP yH S2 0 1 2 (fun p5 => ldI S2 (p5 + 9) 6 x1 (fun v6 => some (v6, S2))) else if x2 = (2 : Int32) then ldP yH S2 0 1 2 (fun p7 => ldI S2 (p7 + 10) 6 x1 (fun v8 => some (v8, S2))) else if x2 = (3 : Int32) then ldI S2 1202 6 x1 (fun v9 => some (v9, S2)) else if x2 = (4 : Int32) then ldI S2 1203 6 x1 (fun v10 => some (v10, S2)) else if x2 = (5 : Int32) then ob2 (f_X8_sightOfTrick 1200 x1 S2) (fun r11 S11 => some (r11, S11)) else some ((-1 : Int32), S2)))
set_option maxHeartbeats 4000000 in
set_option maxRecDepth 100000 in
theorem c_X11_trick (l : Launch) (E : Ev) (x1 : Int32) (x2 : Int32) (S : Hp) (r : (Int32 × Hp)) (h : f_X11_trick x1 x2 S = some r) : ho_M l yH E yX11_trick cX11_trick 3 (some .int) 5 [.ref (E.2.1 0), .int x1, .int x2] S (some (.int r.1), r.2) := by
  refine ho_in (by decide) (Nat.le_of_ble_eq_true rfl) ?_
  intro p e s m args below meth c C hR ls hl
  have C : ho_I p s m args meth c RX11 cX11_trick 3 (some .int) := C
  have hl : lv_has ls 3 [(0, .ref (E.2.1 0)), (1, .int x1), (2, .int x2)] := hl
  unfold f_X11_trick at h
  refine lv_aload_n C.1 C.2.1 dX11_trick_0 rfl (lv_at hl 0 rfl) ?_
  obtain ⟨p1, e1, hp1, h⟩ := ldP_ok h
  refine hr_getP C cf11 fH_RX11_19 hR aH_0 e1 dX11_trick_1 ?_
  refine lv_iconst (v := (1 : Int32)) C.1 C.2.1 dX11_trick_4 (by decide) ?_
  refine lv_iload_n C.1 C.2.1 dX11_trick_5 rfl (lv_at hl 1 rfl) ?_
  obtain ⟨r2, S2, h2, h⟩ := ob2_ok h
  refine hr_Vi (v := r2) (S' := S2) (As := [.int (1 : Int32), .int x1]) (rest := []) C cf2 (c_X2_holds l E p1 (1 : Int32) x1 hp1 _ _ h2) yv_X2_holds lk_RX11_173 rfl hp1 rfl rfl hl.1 (Nat.le_of_ble_eq_true rfl) (by decide) (by decide) hR (ho_A hR) dX11_trick_6 (fun H locs hR => ?_)
  refine lv_if_ne (tgt := 14) C.1 C.2.1 dX11_trick_9 (by decide) (fun hc => ?_) (fun hc => ?_)
  · replace h := if_f h hc
    refine lv_iload_n C.1 C.2.1 dX11_trick_14 rfl (lv_at hl 2 rfl) ?_
    by_cases hc0 : x2 = (0 : Int32)
    · replace h := if_t h hc0
      have hx : (x2).toInt = 0 := by rw [hc0]; decide
      refine lv_tableIn (off := 37) (tgt := 52) C.1 C.2.1 dX11_trick_15 (by rw [hx]; decide) (by rw [hx]; decide) (by rw [hx]; decide) (by decide) ?_
      refine lv_aload_n C.1 C.2.1 dX11_trick_52 rfl (lv_at hl 0 rfl) ?_
      obtain ⟨p3, e3, hp3, h⟩ := ldP_ok h
      refine hr_getP C cf11 fH_RX11_19 hR aH_0 e3 dX11_trick_53 ?_
      refine ho_getR (a' := (p3 + 8)) C cf2 fH_RX11_190 hR hp3 (pH_2_9 hp3.2) dX11_trick_56 ?_
      refine lv_iload_n C.1 C.2.1 dX11_trick_59 rfl (lv_at hl 1 rfl) ?_
      obtain ⟨v4, e4, hi4, h⟩ := ldI_ok h
      refine hr_ild C hR (rH_2_8 hp3) hi4 e4 dX11_trick_60 ?_
      exact ho_iret C hR h dX11_trick_61
    · replace h := if_f h hc0
      by_cases hc1 : x2 = (1 : Int32)
      · replace h := if_t h hc1
        have hx : (x2).toInt = 1 := by rw [hc1]; decide
        refine lv_tableIn (off := 47) (tgt := 62) C.1 C.2.1 dX11_trick_15 (by rw [hx]; decide) (by rw [hx]; decide) (by rw [hx]; decide) (by decide) ?_
        refine lv_aload_n C.1 C.2.1 dX11_trick_62 rfl (lv_at hl 0 rfl) ?_
        obtain ⟨p5, e5, hp5, h⟩ := ldP_ok h
        refine hr_getP C cf11 fH_RX11_19 hR aH_0 e5 dX11_trick_63 ?_
        refine ho_getR (a' := (p5 + 9)) C cf2 fH_RX11_193 hR hp5 (pH_2_10 hp5.2) dX11_trick_66 ?_
        refine lv_iload_n C.1 C.2.1 dX11_trick_69 rfl (lv_at hl 1 rfl) ?_
        obtain ⟨v6, e6, hi6, h⟩ := ldI_ok h
        refine hr_ild C hR (rH_2_9 hp5) hi6 e6 dX11_trick_70 ?_
        exact ho_iret C hR h dX11_trick_71
      · replace h := if_f h hc1
        by_cases hc2 : x2 = (2 : Int32)
        · replace h := if_t h hc2
          have hx : (x2).toInt = 2 := by rw [hc2]; decide
          refine lv_tableIn (off := 57) (tgt := 72) C.1 C.2.1 dX11_trick_15 (by rw [hx]; decide) (by rw [hx]; decide) (by rw [hx]; decide) (by decide) ?_
          refine lv_aload_n C.1 C.2.1 dX11_trick_72 rfl (lv_at hl 0 rfl) ?_
          obtain ⟨p7, e7, hp7, h⟩ := ldP_ok h
          refine hr_getP C cf11 fH_RX11_19 hR aH_0 e7 dX11_trick_73 ?_
          refine ho_getR (a' := (p7 + 10)) C cf2 fH_RX11_196 hR hp7 (pH_2_11 hp7.2) dX11_trick_76 ?_
          refine lv_iload_n C.1 C.2.1 dX11_trick_79 rfl (lv_at hl 1 rfl) ?_
          obtain ⟨v8, e8, hi8, h⟩ := ldI_ok h
          refine hr_ild C hR (rH_2_10 hp7) hi8 e8 dX11_trick_80 ?_
          exact ho_iret C hR h dX11_trick_81
        · replace h := if_f h hc2
          by_cases hc3 : x2 = (3 : Int32)
          · replace h := if_t h hc3
            have hx : (x2).toInt = 3 := by rw [hc3]; decide
            refine lv_tableIn (off := 67) (tgt := 82) C.1 C.2.1 dX11_trick_15 (by rw [hx]; decide) (by rw [hx]; decide) (by rw [hx]; decide) (by decide) ?_
            refine lv_aload_n C.1 C.2.1 dX11_trick_82 rfl (lv_at hl 0 rfl) ?_
            refine ho_getR (a' := 1200) C cf11 fH_RX11_79 hR aH_0 rfl dX11_trick_83 ?_
            refine ho_getR (a' := 1202) C cf9 fH_RX11_199 hR aH_1200 rfl dX11_trick_86 ?_
            refine lv_iload_n C.1 C.2.1 dX11_trick_89 rfl (lv_at hl 1 rfl) ?_
            obtain ⟨v9, e9, hi9, h⟩ := ldI_ok h
            refine hr_ild C hR aH_1202 hi9 e9 dX11_trick_90 ?_
            exact ho_iret C hR h dX11_trick_91
          · replace h := if_f h hc3
            by_cases hc4 : x2 = (4 : Int32)
            · replace h := if_t h hc4
              have hx : (x2).toInt = 4 := by rw [hc4]; decide
              refine lv_tableIn (off := 77) (tgt := 92) C.1 C.2.1 dX11_trick_15 (by rw [hx]; decide) (by rw [hx]; decide) (by rw [hx]; decide) (by decide) ?_
              refine lv_aload_n C.1 C.2.1 dX11_trick_92 rfl (lv_at hl 0 rfl) ?_
              refine ho_getR (a' := 1200) C cf11 fH_RX11_79 hR aH_0 rfl dX11_trick_93 ?_
              refine ho_getR (a' := 1203) C cf9 fH_RX11_202 hR aH_1200 rfl dX11_trick_96 ?_
              refine lv_iload_n C.1 C.2.1 dX11_trick_99 rfl (lv_at hl 1 rfl) ?_
              obtain ⟨v10, e10, hi10, h⟩ := ldI_ok h
              refine hr_ild C hR aH_1203 hi10 e10 dX11_trick_100 ?_
              exact ho_iret C hR h dX11_trick_101
            · replace h := if_f h hc4
              by_cases hc5 : x2 = (5 : Int32)
              · replace h := if_t h hc5
                have hx : (x2).toInt = 5 := by rw [hc5]; decide
                refine lv_tableIn (off := 87) (tgt := 102) C.1 C.2.1 dX11_trick_15 (by rw [hx]; decide) (by rw [hx]; decide) (by rw [hx]; decide) (by decide) ?_
                refine lv_aload_n C.1 C.2.1 dX11_trick_102 rfl (lv_at hl 0 rfl) ?_
                refine ho_getR (a' := 50) C cf11 fH_RX11_49 hR aH_0 rfl dX11_trick_103 ?_
                refine lv_aload_n C.1 C.2.1 dX11_trick_106 rfl (lv_at hl 0 rfl) ?_
                refine ho_getR (a' := 1200) C cf11 fH_RX11_79 hR aH_0 rfl dX11_trick_107 ?_
                refine lv_iload_n C.1 C.2.1 dX11_trick_110 rfl (lv_at hl 1 rfl) ?_
                obtain ⟨r11, S11, h11, h⟩ := ob2_ok h
                refine hr_Vi (v := r11) (S' := S11) (As := [.ref (E.2.1 1200), .int x1]) (rest := []) C cf8 (c_X8_sightOfTrick l E 1200 x1 aH_1200 _ _ h11) yv_X8_sightOfTrick lk_RX11_205 rfl aH_50 rfl rfl hl.1 (Nat.le_of_ble_eq_true rfl) (by decide) (by decide) hR (ho_A hR) dX11_trick_111 (fun H locs hR => ?_)
                exact ho_iret C hR h dX11_trick_114
              · replace h := if_f h hc5
                have hx0 := lv_neT hc0 (a := 0) (by decide)
                have hx1 := lv_neT hc1 (a := 1) (by decide)
                have hx2 := lv_neT hc2 (a := 2) (by decide)
                have hx3 := lv_neT hc3 (a := 3) (by decide)
                have hx4 := lv_neT hc4 (a := 4) (by decide)
                have hx5 := lv_neT hc5 (a := 5) (by decide)
                refine lv_tableOut (tgt := 115) C.1 C.2.1 dX11_trick_15 (by omega) (by decide) ?_
                refine lv_iconst (v := (-1 : Int32)) C.1 C.2.1 dX11_trick_115 (by decide) ?_
                exact ho_iret C hR h dX11_trick_116
  · replace h := if_t h hc
    refine lv_iconst (v := (-1 : Int32)) C.1 C.2.1 dX11_trick_12 (by decide) ?_
    exact ho_iret C hR h dX11_trick_13
theorem dX11_watcher_0 : decode cX11_watcher 0 = .ok (.aload_n 0, 1) := by decide +kernel
theorem dX11_watcher_1 : decode cX11_watcher 1 = .ok (.getfield 19, 3) := by decide +kernel
theorem dX11_watcher_4 : decode cX11_watcher 4 = .ok (.iconst 2, 1) := by decide +kernel
theorem dX11_watcher_5 : decode cX11_watcher 5 = .ok (.iload_n 1, 1) := by decide +kernel
theorem dX11_watcher_6 : decode cX11_watcher 6 = .ok (.invokevirtual 173, 3) := by decide +kernel
theorem dX11_watcher_9 : decode cX11_watcher 9 = .ok (.ifCond .ne 5, 3) := by decide +kernel
theorem dX11_watcher_12 : decode cX11_watcher 12 = .ok (.iconst (-1), 1) := by decide +kernel
theorem dX11_watcher_13 : decode cX11_watcher 13 = .ok (.ireturn, 1) := by decide +kernel
theorem dX11_watcher_14 : decode cX11_watcher 14 = .ok (.iload_n 2, 1) := by decide +kernel
theorem dX11_watcher_15 : decode cX11_watcher 15 = .ok (.tableswitch 67 0 2 #[25, 35, 45], 25) := by decide +kernel
theorem dX11_watcher_40 : decode cX11_watcher 40 = .ok (.aload_n 0, 1) := by decide +kernel
theorem dX11_watcher_41 : decode cX11_watcher 41 = .ok (.getfield 79, 3) := by decide +kernel
theorem dX11_watcher_44 : decode cX11_watcher 44 = .ok (.getfield 209, 3) := by decide +kernel
theorem dX11_watcher_47 : decode cX11_watcher 47 = .ok (.iload_n 1, 1) := by decide +kernel
theorem dX11_watcher_48 : decode cX11_watcher 48 = .ok (.iaload, 1) := by decide +kernel
theorem dX11_watcher_49 : decode cX11_watcher 49 = .ok (.ireturn, 1) := by decide +kernel
theorem dX11_watcher_50 : decode cX11_watcher 50 = .ok (.aload_n 0, 1) := by decide +kernel
theorem dX11_watcher_51 : decode cX11_watcher 51 = .ok (.getfield 19, 3) := by decide +kernel
theorem dX11_watcher_54 : decode cX11_watcher 54 = .ok (.getfield 212, 3) := by decide +kernel
theorem dX11_watcher_57 : decode cX11_watcher 57 = .ok (.iload_n 1, 1) := by decide +kernel
theorem dX11_watcher_58 : decode cX11_watcher 58 = .ok (.iaload, 1) := by decide +kernel
theorem dX11_watcher_59 : decode cX11_watcher 59 = .ok (.ireturn, 1) := by decide +kernel
theorem dX11_watcher_60 : decode cX11_watcher 60 = .ok (.aload_n 0, 1) := by decide +kernel
theorem dX11_watcher_61 : decode cX11_watcher 61 = .ok (.getfield 49, 3) := by decide +kernel
theorem dX11_watcher_64 : decode cX11_watcher 64 = .ok (.aload_n 0, 1) := by decide +kernel
theorem dX11_watcher_65 : decode cX11_watcher 65 = .ok (.getfield 79, 3) := by decide +kernel
theorem dX11_watcher_68 : decode cX11_watcher 68 = .ok (.iload_n 1, 1) := by decide +kernel
theorem dX11_watcher_69 : decode cX11_watcher 69 = .ok (.aload_n 0, 1) := by decide +kernel
theorem dX11_watcher_70 : decode cX11_watcher 70 = .ok (.getfield 79, 3) := by decide +kernel
theorem dX11_watcher_73 : decode cX11_watcher 73 = .ok (.getfield 209, 3) := by decide +kernel
theorem dX11_watcher_76 : decode cX11_watcher 76 = .ok (.iload_n 1, 1) := by decide +kernel
theorem dX11_watcher_77 : decode cX11_watcher 77 = .ok (.iaload, 1) := by decide +kernel
theorem dX11_watcher_78 : decode cX11_watcher 78 = .ok (.invokevirtual 215, 3) := by decide +kernel
theorem dX11_watcher_81 : decode cX11_watcher 81 = .ok (.ireturn, 1) := by decide +kernel
theorem dX11_watcher_82 : decode cX11_watcher 82 = .ok (.iconst (-1), 1) := by decide +kernel
theorem dX11_watcher_83 : decode cX11_watcher 83 = .ok (.ireturn, 1) := by decide +kernel
def f_X11_watcher (x1 : Int32) (x2 : Int32) (S : Hp) : Option (Int32 × Hp) :=
  ldP yH S 0 1 2 (fun p1 => ob2 (f_X2_holds p1 (2 : Int32) x1 S) (fun r2 S2 => if r2 = 0 then some ((-1 : Int32), S2) else if x2 = (0 : Int32) then ldI S2 1204 5 x1 (fun v3 => some (v3, S2)) else if x2 = (1 : Int32) then ldP yH S2 0 1 2 (fun p4 => ldI S2 (p4 + 12) 5 x1 (fun v5 => some (v5, S2))) else if x2 = (2 : Int32) then ldI S2 1204 5 x1 (fun v6 => ob2 (f_X8_sightFrom 1200 x1 v6 S2) (fun r7 S7 => some (r7, S7))) else some ((-1 : Int32), S2)))
set_option maxHeartbeats 4000000 in
set_option maxRecDepth 100000 in
theorem c_X11_watcher (l : Launch) (E : Ev) (x1 : Int32) (x2 : Int32) (S : Hp) (r : (Int32 × Hp)) (h : f_X11_watcher x1 x2 S = some r) : ho_M l yH E yX11_watcher cX11_watcher 3 (some .int) 5 [.ref (E.2.1 0), .int x1, .int x2] S (some (.int r.1), r.2) := by
  refine ho_in (by decide) (Nat.le_of_ble_eq_true rfl) ?_
  intro p e s m args below meth c C hR ls hl
  have C : ho_I p s m args meth c RX11 cX11_watcher 3 (some .int) := C
  have hl : lv_has ls 3 [(0, .ref (E.2.1 0)), (1, .int x1), (2, .int x2)] := hl
  unfold f_X11_watcher at h
  refine lv_aload_n C.1 C.2.1 dX11_watcher_0 rfl (lv_at hl 0 rfl) ?_
  obtain ⟨p1, e1, hp1, h⟩ := ldP_ok h
  refine hr_getP C cf11 fH_RX11_19 hR aH_0 e1 dX11_watcher_1 ?_
  refine lv_iconst (v := (2 : Int32)) C.1 C.2.1 dX11_watcher_4 (by decide) ?_
  refine lv_iload_n C.1 C.2.1 dX11_watcher_5 rfl (lv_at hl 1 rfl) ?_
  obtain ⟨r2, S2, h2, h⟩ := ob2_ok h
  refine hr_Vi (v := r2) (S' := S2) (As := [.int (2 : Int32), .int x1]) (rest := []) C cf2 (c_X2_holds l E p1 (2 : Int32) x1 hp1 _ _ h2) yv_X2_holds lk_RX11_173 rfl hp1 rfl rfl hl.1 (Nat.le_of_ble_eq_true rfl) (by decide) (by decide) hR (ho_A hR) dX11_watcher_6 (fun H locs hR => ?_)
  refine lv_if_ne (tgt := 14) C.1 C.2.1 dX11_watcher_9 (by decide) (fun hc => ?_) (fun hc => ?_)
  · replace h := if_f h hc
    refine lv_iload_n C.1 C.2.1 dX11_watcher_14 rfl (lv_at hl 2 rfl) ?_
    by_cases hc0 : x2 = (0 : Int32)
    · replace h := if_t h hc0
      have hx : (x2).toInt = 0 := by rw [hc0]; decide
      refine lv_tableIn (off := 25) (tgt := 40) C.1 C.2.1 dX11_watcher_15 (by rw [hx]; decide) (by rw [hx]; decide) (by rw [hx]; decide) (by decide) ?_
      refine lv_aload_n C.1 C.2.1 dX11_watcher_40 rfl (lv_at hl 0 rfl) ?_
      refine ho_getR (a' := 1200) C cf11 fH_RX11_79 hR aH_0 rfl dX11_watcher_41 ?_
      refine ho_getR (a' := 1204) C cf9 fH_RX11_209 hR aH_1200 rfl dX11_watcher_44 ?_
      refine lv_iload_n C.1 C.2.1 dX11_watcher_47 rfl (lv_at hl 1 rfl) ?_
      obtain ⟨v3, e3, hi3, h⟩ := ldI_ok h
      refine hr_ild C hR aH_1204 hi3 e3 dX11_watcher_48 ?_
      exact ho_iret C hR h dX11_watcher_49
    · replace h := if_f h hc0
      by_cases hc1 : x2 = (1 : Int32)
      · replace h := if_t h hc1
        have hx : (x2).toInt = 1 := by rw [hc1]; decide
        refine lv_tableIn (off := 35) (tgt := 50) C.1 C.2.1 dX11_watcher_15 (by rw [hx]; decide) (by rw [hx]; decide) (by rw [hx]; decide) (by decide) ?_
        refine lv_aload_n C.1 C.2.1 dX11_watcher_50 rfl (lv_at hl 0 rfl) ?_
        obtain ⟨p4, e4, hp4, h⟩ := ldP_ok h
        refine hr_getP C cf11 fH_RX11_19 hR aH_0 e4 dX11_watcher_51 ?_
        refine ho_getR (a' := (p4 + 12)) C cf2 fH_RX11_212 hR hp4 (pH_2_13 hp4.2) dX11_watcher_54 ?_
        refine lv_iload_n C.1 C.2.1 dX11_watcher_57 rfl (lv_at hl 1 rfl) ?_
        obtain ⟨v5, e5, hi5, h⟩ := ldI_ok h
        refine hr_ild C hR (rH_2_12 hp4) hi5 e5 dX11_watcher_58 ?_
        exact ho_iret C hR h dX11_watcher_59
      · replace h := if_f h hc1
        by_cases hc2 : x2 = (2 : Int32)
        · replace h := if_t h hc2
          have hx : (x2).toInt = 2 := by rw [hc2]; decide
          refine lv_tableIn (off := 45) (tgt := 60) C.1 C.2.1 dX11_watcher_15 (by rw [hx]; decide) (by rw [hx]; decide) (by rw [hx]; decide) (by decide) ?_
          refine lv_aload_n C.1 C.2.1 dX11_watcher_60 rfl (lv_at hl 0 rfl) ?_
          refine ho_getR (a' := 50) C cf11 fH_RX11_49 hR aH_0 rfl dX11_watcher_61 ?_
          refine lv_aload_n C.1 C.2.1 dX11_watcher_64 rfl (lv_at hl 0 rfl) ?_
          refine ho_getR (a' := 1200) C cf11 fH_RX11_79 hR aH_0 rfl dX11_watcher_65 ?_
          refine lv_iload_n C.1 C.2.1 dX11_watcher_68 rfl (lv_at hl 1 rfl) ?_
          refine lv_aload_n C.1 C.2.1 dX11_watcher_69 rfl (lv_at hl 0 rfl) ?_
          refine ho_getR (a' := 1200) C cf11 fH_RX11_79 hR aH_0 rfl dX11_watcher_70 ?_
          refine ho_getR (a' := 1204) C cf9 fH_RX11_209 hR aH_1200 rfl dX11_watcher_73 ?_
          refine lv_iload_n C.1 C.2.1 dX11_watcher_76 rfl (lv_at hl 1 rfl) ?_
          obtain ⟨v6, e6, hi6, h⟩ := ldI_ok h
          refine hr_ild C hR aH_1204 hi6 e6 dX11_watcher_77 ?_
          obtain ⟨r7, S7, h7, h⟩ := ob2_ok h
          refine hr_Vi (v := r7) (S' := S7) (As := [.ref (E.2.1 1200), .int x1, .int v6]) (rest := []) C cf8 (c_X8_sightFrom l E 1200 x1 v6 aH_1200 _ _ h7) yv_X8_sightFrom lk_RX11_215 rfl aH_50 rfl rfl hl.1 (Nat.le_of_ble_eq_true rfl) (by decide) (by decide) hR (ho_A hR) dX11_watcher_78 (fun H locs hR => ?_)
          exact ho_iret C hR h dX11_watcher_81
        · replace h := if_f h hc2
          have hx0 := lv_neT hc0 (a := 0) (by decide)
          have hx1 := lv_neT hc1 (a := 1) (by decide)
          have hx2 := lv_neT hc2 (a := 2) (by decide)
          refine lv_tableOut (tgt := 82) C.1 C.2.1 dX11_watcher_15 (by omega) (by decide) ?_
          refine lv_iconst (v := (-1 : Int32)) C.1 C.2.1 dX11_watcher_82 (by decide) ?_
          exact ho_iret C hR h dX11_watcher_83
  · replace h := if_t h hc
    refine lv_iconst (v := (-1 : Int32)) C.1 C.2.1 dX11_watcher_12 (by decide) ?_
    exact ho_iret C hR h dX11_watcher_13
theorem dX11_sight_0 : decode cX11_sight 0 = .ok (.aload_n 0, 1) := by decide +kernel
theorem dX11_sight_1 : decode cX11_sight 1 = .ok (.getfield 19, 3) := by decide +kernel
theorem dX11_sight_4 : decode cX11_sight 4 = .ok (.iconst 1, 1) := by decide +kernel
theorem dX11_sight_5 : decode cX11_sight 5 = .ok (.iload_n 1, 1) := by decide +kernel
theorem dX11_sight_6 : decode cX11_sight 6 = .ok (.invokevirtual 173, 3) := by decide +kernel
theorem dX11_sight_9 : decode cX11_sight 9 = .ok (.ifCond .eq 15, 3) := by decide +kernel
theorem dX11_sight_12 : decode cX11_sight 12 = .ok (.aload_n 0, 1) := by decide +kernel
theorem dX11_sight_13 : decode cX11_sight 13 = .ok (.getfield 19, 3) := by decide +kernel
theorem dX11_sight_16 : decode cX11_sight 16 = .ok (.iconst 2, 1) := by decide +kernel
theorem dX11_sight_17 : decode cX11_sight 17 = .ok (.iload_n 2, 1) := by decide +kernel
theorem dX11_sight_18 : decode cX11_sight 18 = .ok (.invokevirtual 173, 3) := by decide +kernel
theorem dX11_sight_21 : decode cX11_sight 21 = .ok (.ifCond .ne 5, 3) := by decide +kernel
theorem dX11_sight_24 : decode cX11_sight 24 = .ok (.iconst (-1), 1) := by decide +kernel
theorem dX11_sight_25 : decode cX11_sight 25 = .ok (.ireturn, 1) := by decide +kernel
theorem dX11_sight_26 : decode cX11_sight 26 = .ok (.aload_n 0, 1) := by decide +kernel
theorem dX11_sight_27 : decode cX11_sight 27 = .ok (.getfield 49, 3) := by decide +kernel
theorem dX11_sight_30 : decode cX11_sight 30 = .ok (.aload_n 0, 1) := by decide +kernel
theorem dX11_sight_31 : decode cX11_sight 31 = .ok (.getfield 79, 3) := by decide +kernel
theorem dX11_sight_34 : decode cX11_sight 34 = .ok (.iload_n 1, 1) := by decide +kernel
theorem dX11_sight_35 : decode cX11_sight 35 = .ok (.iload_n 2, 1) := by decide +kernel
theorem dX11_sight_36 : decode cX11_sight 36 = .ok (.aload_n 0, 1) := by decide +kernel
theorem dX11_sight_37 : decode cX11_sight 37 = .ok (.getfield 79, 3) := by decide +kernel
theorem dX11_sight_40 : decode cX11_sight 40 = .ok (.getfield 209, 3) := by decide +kernel
theorem dX11_sight_43 : decode cX11_sight 43 = .ok (.iload_n 2, 1) := by decide +kernel
theorem dX11_sight_44 : decode cX11_sight 44 = .ok (.iaload, 1) := by decide +kernel
theorem dX11_sight_45 : decode cX11_sight 45 = .ok (.invokevirtual 219, 3) := by decide +kernel
theorem dX11_sight_48 : decode cX11_sight 48 = .ok (.ireturn, 1) := by decide +kernel
def f_X11_sight (x1 : Int32) (x2 : Int32) (S : Hp) : Option (Int32 × Hp) :=
  ldP yH S 0 1 2 (fun p1 => ob2 (f_X2_holds p1 (1 : Int32) x1 S) (fun r2 S2 => if r2 = 0 then some ((-1 : Int32), S2) else ldP yH S2 0 1 2 (fun p3 => ob2 (f_X2_holds p3 (2 : Int32) x2 S2) (fun r4 S4 => if r4 = 0 then some ((-1 : Int32), S4) else ldI S4 1204 5 x2 (fun v5 => ob2 (f_X8_glimpse 1200 x1 x2 v5 S4) (fun r6 S6 => some (r6, S6)))))))
set_option maxHeartbeats 4000000 in
set_option maxRecDepth 100000 in
theorem c_X11_sight (l : Launch) (E : Ev) (x1 : Int32) (x2 : Int32) (S : Hp) (r : (Int32 × Hp)) (h : f_X11_sight x1 x2 S = some r) : ho_M l yH E yX11_sight cX11_sight 3 (some .int) 4 [.ref (E.2.1 0), .int x1, .int x2] S (some (.int r.1), r.2) := by
  refine ho_in (by decide) (Nat.le_of_ble_eq_true rfl) ?_
  intro p e s m args below meth c C hR ls hl
  have C : ho_I p s m args meth c RX11 cX11_sight 3 (some .int) := C
  have hl : lv_has ls 3 [(0, .ref (E.2.1 0)), (1, .int x1), (2, .int x2)] := hl
  unfold f_X11_sight at h
  refine lv_aload_n C.1 C.2.1 dX11_sight_0 rfl (lv_at hl 0 rfl) ?_
  obtain ⟨p1, e1, hp1, h⟩ := ldP_ok h
  refine hr_getP C cf11 fH_RX11_19 hR aH_0 e1 dX11_sight_1 ?_
  refine lv_iconst (v := (1 : Int32)) C.1 C.2.1 dX11_sight_4 (by decide) ?_
  refine lv_iload_n C.1 C.2.1 dX11_sight_5 rfl (lv_at hl 1 rfl) ?_
  obtain ⟨r2, S2, h2, h⟩ := ob2_ok h
  refine hr_Vi (v := r2) (S' := S2) (As := [.int (1 : Int32), .int x1]) (rest := []) C cf2 (c_X2_holds l E p1 (1 : Int32) x1 hp1 _ _ h2) yv_X2_holds lk_RX11_173 rfl hp1 rfl rfl hl.1 (Nat.le_of_ble_eq_true rfl) (by decide) (by decide) hR (ho_A hR) dX11_sight_6 (fun H locs hR => ?_)
  refine lv_if_eq (tgt := 24) C.1 C.2.1 dX11_sight_9 (by decide) (fun hc => ?_) (fun hc => ?_)
  · replace h := if_t h hc
    refine lv_iconst (v := (-1 : Int32)) C.1 C.2.1 dX11_sight_24 (by decide) ?_
    exact ho_iret C hR h dX11_sight_25
  · replace h := if_f h hc
    refine lv_aload_n C.1 C.2.1 dX11_sight_12 rfl (lv_at hl 0 rfl) ?_
    obtain ⟨p3, e3, hp3, h⟩ := ldP_ok h
    refine hr_getP C cf11 fH_RX11_19 hR aH_0 e3 dX11_sight_13 ?_
    refine lv_iconst (v := (2 : Int32)) C.1 C.2.1 dX11_sight_16 (by decide) ?_
    refine lv_iload_n C.1 C.2.1 dX11_sight_17 rfl (lv_at hl 2 rfl) ?_
    obtain ⟨r4, S4, h4, h⟩ := ob2_ok h
    refine hr_Vi (v := r4) (S' := S4) (As := [.int (2 : Int32), .int x2]) (rest := []) C cf2 (c_X2_holds l E p3 (2 : Int32) x2 hp3 _ _ h4) yv_X2_holds lk_RX11_173 rfl hp3 rfl rfl hl.1 (Nat.le_of_ble_eq_true rfl) (by decide) (by decide) hR (ho_A hR) dX11_sight_18 (fun H locs hR => ?_)
    refine lv_if_ne (tgt := 26) C.1 C.2.1 dX11_sight_21 (by decide) (fun hc => ?_) (fun hc => ?_)
    · replace h := if_f h hc
      refine lv_aload_n C.1 C.2.1 dX11_sight_26 rfl (lv_at hl 0 rfl) ?_
      refine ho_getR (a' := 50) C cf11 fH_RX11_49 hR aH_0 rfl dX11_sight_27 ?_
      refine lv_aload_n C.1 C.2.1 dX11_sight_30 rfl (lv_at hl 0 rfl) ?_
      refine ho_getR (a' := 1200) C cf11 fH_RX11_79 hR aH_0 rfl dX11_sight_31 ?_
      refine lv_iload_n C.1 C.2.1 dX11_sight_34 rfl (lv_at hl 1 rfl) ?_
      refine lv_iload_n C.1 C.2.1 dX11_sight_35 rfl (lv_at hl 2 rfl) ?_
      refine lv_aload_n C.1 C.2.1 dX11_sight_36 rfl (lv_at hl 0 rfl) ?_
      refine ho_getR (a' := 1200) C cf11 fH_RX11_79 hR aH_0 rfl dX11_sight_37 ?_
      refine ho_getR (a' := 1204) C cf9 fH_RX11_209 hR aH_1200 rfl dX11_sight_40 ?_
      refine lv_iload_n C.1 C.2.1 dX11_sight_43 rfl (lv_at hl 2 rfl) ?_
      obtain ⟨v5, e5, hi5, h⟩ := ldI_ok h
      refine hr_ild C hR aH_1204 hi5 e5 dX11_sight_44 ?_
      obtain ⟨r6, S6, h6, h⟩ := ob2_ok h
      refine hr_Vi (v := r6) (S' := S6) (As := [.ref (E.2.1 1200), .int x1, .int x2, .int v5]) (rest := []) C cf8 (c_X8_glimpse l E 1200 x1 x2 v5 aH_1200 _ _ h6) yv_X8_glimpse lk_RX11_219 rfl aH_50 rfl rfl hl.1 (Nat.le_of_ble_eq_true rfl) (by decide) (by decide) hR (ho_A hR) dX11_sight_45 (fun H locs hR => ?_)
      exact ho_iret C hR h dX11_sight_48
    · replace h := if_t h hc
      refine lv_iconst (v := (-1 : Int32)) C.1 C.2.1 dX11_sight_24 (by decide) ?_
      exact ho_iret C hR h dX11_sight_25
theorem dX11_kept_0 : decode cX11_kept 0 = .ok (.iload_n 1, 1) := by decide +kernel
theorem dX11_kept_1 : decode cX11_kept 1 = .ok (.ifCond .lt 23, 3) := by decide +kernel
theorem dX11_kept_4 : decode cX11_kept 4 = .ok (.iload_n 1, 1) := by decide +kernel
theorem dX11_kept_5 : decode cX11_kept 5 = .ok (.aload_n 0, 1) := by decide +kernel
theorem dX11_kept_6 : decode cX11_kept 6 = .ok (.getfield 79, 3) := by decide +kernel
theorem dX11_kept_9 : decode cX11_kept 9 = .ok (.getfield 170, 3) := by decide +kernel
theorem dX11_kept_12 : decode cX11_kept 12 = .ok (.if_icmp .ge 12, 3) := by decide +kernel
theorem dX11_kept_15 : decode cX11_kept 15 = .ok (.iload_n 2, 1) := by decide +kernel
theorem dX11_kept_16 : decode cX11_kept 16 = .ok (.ifCond .lt 8, 3) := by decide +kernel
theorem dX11_kept_19 : decode cX11_kept 19 = .ok (.iload_n 2, 1) := by decide +kernel
theorem dX11_kept_20 : decode cX11_kept 20 = .ok (.iconst 3, 1) := by decide +kernel
theorem dX11_kept_21 : decode cX11_kept 21 = .ok (.if_icmp .lt 5, 3) := by decide +kernel
theorem dX11_kept_24 : decode cX11_kept 24 = .ok (.iconst (-1), 1) := by decide +kernel
theorem dX11_kept_25 : decode cX11_kept 25 = .ok (.ireturn, 1) := by decide +kernel
theorem dX11_kept_26 : decode cX11_kept 26 = .ok (.aload_n 0, 1) := by decide +kernel
theorem dX11_kept_27 : decode cX11_kept 27 = .ok (.getfield 79, 3) := by decide +kernel
theorem dX11_kept_30 : decode cX11_kept 30 = .ok (.getfield 223, 3) := by decide +kernel
theorem dX11_kept_33 : decode cX11_kept 33 = .ok (.iload_n 1, 1) := by decide +kernel
theorem dX11_kept_34 : decode cX11_kept 34 = .ok (.iconst 3, 1) := by decide +kernel
theorem dX11_kept_35 : decode cX11_kept 35 = .ok (.imul, 1) := by decide +kernel
theorem dX11_kept_36 : decode cX11_kept 36 = .ok (.iload_n 2, 1) := by decide +kernel
theorem dX11_kept_37 : decode cX11_kept 37 = .ok (.iadd, 1) := by decide +kernel
theorem dX11_kept_38 : decode cX11_kept 38 = .ok (.iaload, 1) := by decide +kernel
theorem dX11_kept_39 : decode cX11_kept 39 = .ok (.ireturn, 1) := by decide +kernel
def f_X11_kept (x1 : Int32) (x2 : Int32) (S : Hp) : Option (Int32 × Hp) :=
  if x1 < 0 then some ((-1 : Int32), S) else if (S.1 1200 7) ≤ x1 then some ((-1 : Int32), S) else if x2 < 0 then some ((-1 : Int32), S) else if x2 < (3 : Int32) then ldI S 1205 90 ((x1 * (3 : Int32)) + x2) (fun v1 => some (v1, S)) else some ((-1 : Int32), S)
set_option maxHeartbeats 4000000 in
set_option maxRecDepth 100000 in
theorem c_X11_kept (l : Launch) (E : Ev) (x1 : Int32) (x2 : Int32) (S : Hp) (r : (Int32 × Hp)) (h : f_X11_kept x1 x2 S = some r) : ho_M l yH E yX11_kept cX11_kept 3 (some .int) 0 [.ref (E.2.1 0), .int x1, .int x2] S (some (.int r.1), r.2) := by
  refine ho_in (by decide) (Nat.le_of_ble_eq_true rfl) ?_
  intro p e s m args below meth c C hR ls hl
  have C : ho_I p s m args meth c RX11 cX11_kept 3 (some .int) := C
  have hl : lv_has ls 3 [(0, .ref (E.2.1 0)), (1, .int x1), (2, .int x2)] := hl
  unfold f_X11_kept at h
  refine lv_iload_n C.1 C.2.1 dX11_kept_0 rfl (lv_at hl 1 rfl) ?_
  refine lv_if_lt (tgt := 24) C.1 C.2.1 dX11_kept_1 (by decide) (fun hc => ?_) (fun hc => ?_)
  · replace h := if_t h hc
    refine lv_iconst (v := (-1 : Int32)) C.1 C.2.1 dX11_kept_24 (by decide) ?_
    exact ho_iret C hR h dX11_kept_25
  · replace h := if_f h hc
    refine lv_iload_n C.1 C.2.1 dX11_kept_4 rfl (lv_at hl 1 rfl) ?_
    refine lv_aload_n C.1 C.2.1 dX11_kept_5 rfl (lv_at hl 0 rfl) ?_
    refine ho_getR (a' := 1200) C cf11 fH_RX11_79 hR aH_0 rfl dX11_kept_6 ?_
    refine ho_getI C cf9 fH_RX11_170 hR aH_1200 dX11_kept_9 ?_
    refine lv_icmp_ge (tgt := 24) C.1 C.2.1 dX11_kept_12 (by decide) (fun hc => ?_) (fun hc => ?_)
    · replace h := if_t h hc
      refine lv_iconst (v := (-1 : Int32)) C.1 C.2.1 dX11_kept_24 (by decide) ?_
      exact ho_iret C hR h dX11_kept_25
    · replace h := if_f h hc
      refine lv_iload_n C.1 C.2.1 dX11_kept_15 rfl (lv_at hl 2 rfl) ?_
      refine lv_if_lt (tgt := 24) C.1 C.2.1 dX11_kept_16 (by decide) (fun hc => ?_) (fun hc => ?_)
      · replace h := if_t h hc
        refine lv_iconst (v := (-1 : Int32)) C.1 C.2.1 dX11_kept_24 (by decide) ?_
        exact ho_iret C hR h dX11_kept_25
      · replace h := if_f h hc
        refine lv_iload_n C.1 C.2.1 dX11_kept_19 rfl (lv_at hl 2 rfl) ?_
        refine lv_iconst (v := (3 : Int32)) C.1 C.2.1 dX11_kept_20 (by decide) ?_
        refine lv_icmp_lt (tgt := 26) C.1 C.2.1 dX11_kept_21 (by decide) (fun hc => ?_) (fun hc => ?_)
        · replace h := if_t h hc
          refine lv_aload_n C.1 C.2.1 dX11_kept_26 rfl (lv_at hl 0 rfl) ?_
          refine ho_getR (a' := 1200) C cf11 fH_RX11_79 hR aH_0 rfl dX11_kept_27 ?_
          refine ho_getR (a' := 1205) C cf9 fH_RX11_223 hR aH_1200 rfl dX11_kept_30 ?_
          refine lv_iload_n C.1 C.2.1 dX11_kept_33 rfl (lv_at hl 1 rfl) ?_
          refine lv_iconst (v := (3 : Int32)) C.1 C.2.1 dX11_kept_34 (by decide) ?_
          refine lv_imul C.1 C.2.1 dX11_kept_35 ?_
          refine lv_iload_n C.1 C.2.1 dX11_kept_36 rfl (lv_at hl 2 rfl) ?_
          refine lv_iadd C.1 C.2.1 dX11_kept_37 ?_
          obtain ⟨v1, e1, hi1, h⟩ := ldI_ok h
          refine hr_ild C hR aH_1205 hi1 e1 dX11_kept_38 ?_
          exact ho_iret C hR h dX11_kept_39
        · replace h := if_f h hc
          refine lv_iconst (v := (-1 : Int32)) C.1 C.2.1 dX11_kept_24 (by decide) ?_
          exact ho_iret C hR h dX11_kept_25
theorem dX11_best_0 : decode cX11_best 0 = .ok (.aload_n 0, 1) := by decide +kernel
theorem dX11_best_1 : decode cX11_best 1 = .ok (.getfield 94, 3) := by decide +kernel
theorem dX11_best_4 : decode cX11_best 4 = .ok (.ifCond .eq 12, 3) := by decide +kernel
theorem dX11_best_7 : decode cX11_best 7 = .ok (.iload_n 1, 1) := by decide +kernel
theorem dX11_best_8 : decode cX11_best 8 = .ok (.ifCond .lt 8, 3) := by decide +kernel
theorem dX11_best_11 : decode cX11_best 11 = .ok (.iload_n 1, 1) := by decide +kernel
theorem dX11_best_12 : decode cX11_best 12 = .ok (.iconst 2, 1) := by decide +kernel
theorem dX11_best_13 : decode cX11_best 13 = .ok (.if_icmp .le 5, 3) := by decide +kernel
theorem dX11_best_16 : decode cX11_best 16 = .ok (.iconst (-1), 1) := by decide +kernel
theorem dX11_best_17 : decode cX11_best 17 = .ok (.ireturn, 1) := by decide +kernel
theorem dX11_best_18 : decode cX11_best 18 = .ok (.aload_n 0, 1) := by decide +kernel
theorem dX11_best_19 : decode cX11_best 19 = .ok (.getfield 83, 3) := by decide +kernel
theorem dX11_best_22 : decode cX11_best 22 = .ok (.aload_n 0, 1) := by decide +kernel
theorem dX11_best_23 : decode cX11_best 23 = .ok (.getfield 79, 3) := by decide +kernel
theorem dX11_best_26 : decode cX11_best 26 = .ok (.invokevirtual 226, 3) := by decide +kernel
theorem dX11_best_29 : decode cX11_best 29 = .ok (.aload_n 0, 1) := by decide +kernel
theorem dX11_best_30 : decode cX11_best 30 = .ok (.getfield 49, 3) := by decide +kernel
theorem dX11_best_33 : decode cX11_best 33 = .ok (.aload_n 0, 1) := by decide +kernel
theorem dX11_best_34 : decode cX11_best 34 = .ok (.getfield 83, 3) := by decide +kernel
theorem dX11_best_37 : decode cX11_best 37 = .ok (.invokevirtual 230, 3) := by decide +kernel
theorem dX11_best_40 : decode cX11_best 40 = .ok (.aload_n 0, 1) := by decide +kernel
theorem dX11_best_41 : decode cX11_best 41 = .ok (.getfield 49, 3) := by decide +kernel
theorem dX11_best_44 : decode cX11_best 44 = .ok (.aload_n 0, 1) := by decide +kernel
theorem dX11_best_45 : decode cX11_best 45 = .ok (.getfield 83, 3) := by decide +kernel
theorem dX11_best_48 : decode cX11_best 48 = .ok (.invokevirtual 233, 3) := by decide +kernel
theorem dX11_best_51 : decode cX11_best 51 = .ok (.aload_n 0, 1) := by decide +kernel
theorem dX11_best_52 : decode cX11_best 52 = .ok (.getfield 49, 3) := by decide +kernel
theorem dX11_best_55 : decode cX11_best 55 = .ok (.aload_n 0, 1) := by decide +kernel
theorem dX11_best_56 : decode cX11_best 56 = .ok (.getfield 83, 3) := by decide +kernel
theorem dX11_best_59 : decode cX11_best 59 = .ok (.invokevirtual 236, 3) := by decide +kernel
theorem dX11_best_62 : decode cX11_best 62 = .ok (.iload_n 1, 1) := by decide +kernel
theorem dX11_best_63 : decode cX11_best 63 = .ok (.lookupswitch 41 #[(0, 25), (1, 33)], 25) := by decide +kernel
theorem dX11_best_88 : decode cX11_best 88 = .ok (.aload_n 0, 1) := by decide +kernel
theorem dX11_best_89 : decode cX11_best 89 = .ok (.getfield 49, 3) := by decide +kernel
theorem dX11_best_92 : decode cX11_best 92 = .ok (.getfield 239, 3) := by decide +kernel
theorem dX11_best_95 : decode cX11_best 95 = .ok (.ireturn, 1) := by decide +kernel
theorem dX11_best_96 : decode cX11_best 96 = .ok (.aload_n 0, 1) := by decide +kernel
theorem dX11_best_97 : decode cX11_best 97 = .ok (.getfield 49, 3) := by decide +kernel
theorem dX11_best_100 : decode cX11_best 100 = .ok (.getfield 242, 3) := by decide +kernel
theorem dX11_best_103 : decode cX11_best 103 = .ok (.ireturn, 1) := by decide +kernel
theorem dX11_best_104 : decode cX11_best 104 = .ok (.aload_n 0, 1) := by decide +kernel
theorem dX11_best_105 : decode cX11_best 105 = .ok (.getfield 49, 3) := by decide +kernel
theorem dX11_best_108 : decode cX11_best 108 = .ok (.getfield 245, 3) := by decide +kernel
theorem dX11_best_111 : decode cX11_best 111 = .ok (.ireturn, 1) := by decide +kernel
def f_X11_best (x1 : Int32) (S : Hp) : Option (Int32 × Hp) :=
  if (S.1 0 13) = 0 then some ((-1 : Int32), S) else if x1 < 0 then some ((-1 : Int32), S) else if x1 ≤ (2 : Int32) then ob (f_X9_copy 1210 1200 S) (fun S1 => ob (f_X8_ripen 1210 S1) (fun S2 => ob (f_X8_lookAtAll 1210 S2) (fun S3 => ob (f_X8_choose 1210 S3) (fun S4 => if x1 = (0 : Int32) then some ((S4.1 50 3), S4) else if x1 = (1 : Int32) then some ((S4.1 50 4), S4) else some ((S4.1 50 5), S4))))) else some ((-1 : Int32), S)
set_option maxHeartbeats 4000000 in
set_option maxRecDepth 100000 in
theorem c_X11_best (l : Launch) (E : Ev) (x1 : Int32) (S : Hp) (r : (Int32 × Hp)) (h : f_X11_best x1 S = some r) : ho_M l yH E yX11_best cX11_best 2 (some .int) 5 [.ref (E.2.1 0), .int x1] S (some (.int r.1), r.2) := by
  refine ho_in (by decide) (Nat.le_of_ble_eq_true rfl) ?_
  intro p e s m args below meth c C hR ls hl
  have C : ho_I p s m args meth c RX11 cX11_best 2 (some .int) := C
  have hl : lv_has ls 2 [(0, .ref (E.2.1 0)), (1, .int x1)] := hl
  unfold f_X11_best at h
  refine lv_aload_n C.1 C.2.1 dX11_best_0 rfl (lv_at hl 0 rfl) ?_
  refine ho_getI C cf11 fH_RX11_94 hR aH_0 dX11_best_1 ?_
  refine lv_if_eq (tgt := 16) C.1 C.2.1 dX11_best_4 (by decide) (fun hc => ?_) (fun hc => ?_)
  · replace h := if_t h hc
    refine lv_iconst (v := (-1 : Int32)) C.1 C.2.1 dX11_best_16 (by decide) ?_
    exact ho_iret C hR h dX11_best_17
  · replace h := if_f h hc
    refine lv_iload_n C.1 C.2.1 dX11_best_7 rfl (lv_at hl 1 rfl) ?_
    refine lv_if_lt (tgt := 16) C.1 C.2.1 dX11_best_8 (by decide) (fun hc => ?_) (fun hc => ?_)
    · replace h := if_t h hc
      refine lv_iconst (v := (-1 : Int32)) C.1 C.2.1 dX11_best_16 (by decide) ?_
      exact ho_iret C hR h dX11_best_17
    · replace h := if_f h hc
      refine lv_iload_n C.1 C.2.1 dX11_best_11 rfl (lv_at hl 1 rfl) ?_
      refine lv_iconst (v := (2 : Int32)) C.1 C.2.1 dX11_best_12 (by decide) ?_
      refine lv_icmp_le (tgt := 18) C.1 C.2.1 dX11_best_13 (by decide) (fun hc => ?_) (fun hc => ?_)
      · replace h := if_t h hc
        refine lv_aload_n C.1 C.2.1 dX11_best_18 rfl (lv_at hl 0 rfl) ?_
        refine ho_getR (a' := 1210) C cf11 fH_RX11_83 hR aH_0 rfl dX11_best_19 ?_
        refine lv_aload_n C.1 C.2.1 dX11_best_22 rfl (lv_at hl 0 rfl) ?_
        refine ho_getR (a' := 1200) C cf11 fH_RX11_79 hR aH_0 rfl dX11_best_23 ?_
        obtain ⟨S1, h1, h⟩ := ob_ok h
        refine hr_Vv (S' := S1) (As := [.ref (E.2.1 1200)]) (rest := []) C cf9 (c_X9_copy l E 1210 1200 aH_1210 aH_1200 _ _ h1) yv_X9_copy lk_RX11_226 rfl aH_1210 rfl rfl hl.1 (Nat.le_of_ble_eq_true rfl) (by decide) (by decide) hR (ho_A hR) dX11_best_26 (fun H locs hR => ?_)
        refine lv_aload_n C.1 C.2.1 dX11_best_29 rfl (lv_at hl 0 rfl) ?_
        refine ho_getR (a' := 50) C cf11 fH_RX11_49 hR aH_0 rfl dX11_best_30 ?_
        refine lv_aload_n C.1 C.2.1 dX11_best_33 rfl (lv_at hl 0 rfl) ?_
        refine ho_getR (a' := 1210) C cf11 fH_RX11_83 hR aH_0 rfl dX11_best_34 ?_
        obtain ⟨S2, h2, h⟩ := ob_ok h
        refine hr_Vv (S' := S2) (As := [.ref (E.2.1 1210)]) (rest := []) C cf8 (c_X8_ripen l E 1210 aH_1210 _ _ h2) yv_X8_ripen lk_RX11_230 rfl aH_50 rfl rfl hl.1 (Nat.le_of_ble_eq_true rfl) (by decide) (by decide) hR (ho_A hR) dX11_best_37 (fun H locs hR => ?_)
        refine lv_aload_n C.1 C.2.1 dX11_best_40 rfl (lv_at hl 0 rfl) ?_
        refine ho_getR (a' := 50) C cf11 fH_RX11_49 hR aH_0 rfl dX11_best_41 ?_
        refine lv_aload_n C.1 C.2.1 dX11_best_44 rfl (lv_at hl 0 rfl) ?_
        refine ho_getR (a' := 1210) C cf11 fH_RX11_83 hR aH_0 rfl dX11_best_45 ?_
        obtain ⟨S3, h3, h⟩ := ob_ok h
        refine hr_Vv (S' := S3) (As := [.ref (E.2.1 1210)]) (rest := []) C cf8 (c_X8_lookAtAll l E 1210 aH_1210 _ _ h3) yv_X8_lookAtAll lk_RX11_233 rfl aH_50 rfl rfl hl.1 (Nat.le_of_ble_eq_true rfl) (by decide) (by decide) hR (ho_A hR) dX11_best_48 (fun H locs hR => ?_)
        refine lv_aload_n C.1 C.2.1 dX11_best_51 rfl (lv_at hl 0 rfl) ?_
        refine ho_getR (a' := 50) C cf11 fH_RX11_49 hR aH_0 rfl dX11_best_52 ?_
        refine lv_aload_n C.1 C.2.1 dX11_best_55 rfl (lv_at hl 0 rfl) ?_
        refine ho_getR (a' := 1210) C cf11 fH_RX11_83 hR aH_0 rfl dX11_best_56 ?_
        obtain ⟨S4, h4, h⟩ := ob_ok h
        refine hr_Vv (S' := S4) (As := [.ref (E.2.1 1210)]) (rest := []) C cf8 (c_X8_choose l E 1210 aH_1210 _ _ h4) yv_X8_choose lk_RX11_236 rfl aH_50 rfl rfl hl.1 (Nat.le_of_ble_eq_true rfl) (by decide) (by decide) hR (ho_A hR) dX11_best_59 (fun H locs hR => ?_)
        refine lv_iload_n C.1 C.2.1 dX11_best_62 rfl (lv_at hl 1 rfl) ?_
        by_cases hc0 : x1 = (0 : Int32)
        · replace h := if_t h hc0
          have hx : (x1).toInt = 0 := by rw [hc0]; decide
          refine lv_lookup (off := 25) (tgt := 88) C.1 C.2.1 dX11_best_63 (by decide) (by rw [hx]; decide) (by decide) ?_
          refine lv_aload_n C.1 C.2.1 dX11_best_88 rfl (lv_at hl 0 rfl) ?_
          refine ho_getR (a' := 50) C cf11 fH_RX11_49 hR aH_0 rfl dX11_best_89 ?_
          refine ho_getI C cf8 fH_RX11_239 hR aH_50 dX11_best_92 ?_
          exact ho_iret C hR h dX11_best_95
        · replace h := if_f h hc0
          by_cases hc1 : x1 = (1 : Int32)
          · replace h := if_t h hc1
            have hx : (x1).toInt = 1 := by rw [hc1]; decide
            refine lv_lookup (off := 33) (tgt := 96) C.1 C.2.1 dX11_best_63 (by decide) (by rw [hx]; decide) (by decide) ?_
            refine lv_aload_n C.1 C.2.1 dX11_best_96 rfl (lv_at hl 0 rfl) ?_
            refine ho_getR (a' := 50) C cf11 fH_RX11_49 hR aH_0 rfl dX11_best_97 ?_
            refine ho_getI C cf8 fH_RX11_242 hR aH_50 dX11_best_100 ?_
            exact ho_iret C hR h dX11_best_103
          · replace h := if_f h hc1
            refine lv_lookup (off := 41) (tgt := 104) C.1 C.2.1 dX11_best_63 (by decide) (by show Op.lookupswitch.offset [(0, 25), (1, 33)] _ _ = _; rw [lv_osw hc0 (by decide), lv_osw hc1 (by decide)]; rfl) (by decide) ?_
            refine lv_aload_n C.1 C.2.1 dX11_best_104 rfl (lv_at hl 0 rfl) ?_
            refine ho_getR (a' := 50) C cf11 fH_RX11_49 hR aH_0 rfl dX11_best_105 ?_
            refine ho_getI C cf8 fH_RX11_245 hR aH_50 dX11_best_108 ?_
            exact ho_iret C hR h dX11_best_111
      · replace h := if_f h hc
        refine lv_iconst (v := (-1 : Int32)) C.1 C.2.1 dX11_best_16 (by decide) ?_
        exact ho_iret C hR h dX11_best_17
theorem dX11_canGive_0 : decode cX11_canGive 0 = .ok (.aload_n 0, 1) := by decide +kernel
theorem dX11_canGive_1 : decode cX11_canGive 1 = .ok (.getfield 94, 3) := by decide +kernel
theorem dX11_canGive_4 : decode cX11_canGive 4 = .ok (.ifCond .eq 29, 3) := by decide +kernel
theorem dX11_canGive_7 : decode cX11_canGive 7 = .ok (.iload_n 1, 1) := by decide +kernel
theorem dX11_canGive_8 : decode cX11_canGive 8 = .ok (.ifCond .lt 25, 3) := by decide +kernel
theorem dX11_canGive_11 : decode cX11_canGive 11 = .ok (.iload_n 1, 1) := by decide +kernel
theorem dX11_canGive_12 : decode cX11_canGive 12 = .ok (.aload_n 0, 1) := by decide +kernel
theorem dX11_canGive_13 : decode cX11_canGive 13 = .ok (.getfield 49, 3) := by decide +kernel
theorem dX11_canGive_16 : decode cX11_canGive 16 = .ok (.aload_n 0, 1) := by decide +kernel
theorem dX11_canGive_17 : decode cX11_canGive 17 = .ok (.getfield 79, 3) := by decide +kernel
theorem dX11_canGive_20 : decode cX11_canGive 20 = .ok (.invokevirtual 356, 3) := by decide +kernel
theorem dX11_canGive_23 : decode cX11_canGive 23 = .ok (.iconst (-1), 1) := by decide +kernel
theorem dX11_canGive_24 : decode cX11_canGive 24 = .ok (.ixor, 1) := by decide +kernel
theorem dX11_canGive_25 : decode cX11_canGive 25 = .ok (.iand, 1) := by decide +kernel
theorem dX11_canGive_26 : decode cX11_canGive 26 = .ok (.ifCond .ne 7, 3) := by decide +kernel
theorem dX11_canGive_29 : decode cX11_canGive 29 = .ok (.iconst 1, 1) := by decide +kernel
theorem dX11_canGive_30 : decode cX11_canGive 30 = .ok (.goto 4, 3) := by decide +kernel
theorem dX11_canGive_33 : decode cX11_canGive 33 = .ok (.iconst 0, 1) := by decide +kernel
theorem dX11_canGive_34 : decode cX11_canGive 34 = .ok (.ireturn, 1) := by decide +kernel
def f_X11_canGive (x1 : Int32) (S : Hp) : Option (Int32 × Hp) :=
  if (S.1 0 13) = 0 then some ((0 : Int32), S) else if x1 < 0 then some ((0 : Int32), S) else ob2 (f_X8_showable 1200 S) (fun r1 S1 => if (x1 &&& (r1 ^^^ (-1 : Int32))) = 0 then some ((1 : Int32), S1) else some ((0 : Int32), S1))
set_option maxHeartbeats 4000000 in
set_option maxRecDepth 100000 in
theorem c_X11_canGive (l : Launch) (E : Ev) (x1 : Int32) (S : Hp) (r : (Int32 × Hp)) (h : f_X11_canGive x1 S = some r) : ho_M l yH E yX11_canGive cX11_canGive 2 (some .boolean) 2 [.ref (E.2.1 0), .int x1] S (some (.int r.1), r.2) := by
  refine ho_in (by decide) (Nat.le_of_ble_eq_true rfl) ?_
  intro p e s m args below meth c C hR ls hl
  have C : ho_I p s m args meth c RX11 cX11_canGive 2 (some .boolean) := C
  have hl : lv_has ls 2 [(0, .ref (E.2.1 0)), (1, .int x1)] := hl
  unfold f_X11_canGive at h
  refine lv_aload_n C.1 C.2.1 dX11_canGive_0 rfl (lv_at hl 0 rfl) ?_
  refine ho_getI C cf11 fH_RX11_94 hR aH_0 dX11_canGive_1 ?_
  refine lv_if_eq (tgt := 33) C.1 C.2.1 dX11_canGive_4 (by decide) (fun hc => ?_) (fun hc => ?_)
  · replace h := if_t h hc
    refine lv_iconst (v := (0 : Int32)) C.1 C.2.1 dX11_canGive_33 (by decide) ?_
    exact ho_zret C hR (Or.inl rfl) h dX11_canGive_34
  · replace h := if_f h hc
    refine lv_iload_n C.1 C.2.1 dX11_canGive_7 rfl (lv_at hl 1 rfl) ?_
    refine lv_if_lt (tgt := 33) C.1 C.2.1 dX11_canGive_8 (by decide) (fun hc => ?_) (fun hc => ?_)
    · replace h := if_t h hc
      refine lv_iconst (v := (0 : Int32)) C.1 C.2.1 dX11_canGive_33 (by decide) ?_
      exact ho_zret C hR (Or.inl rfl) h dX11_canGive_34
    · replace h := if_f h hc
      refine lv_iload_n C.1 C.2.1 dX11_canGive_11 rfl (lv_at hl 1 rfl) ?_
      refine lv_aload_n C.1 C.2.1 dX11_canGive_12 rfl (lv_at hl 0 rfl) ?_
      refine ho_getR (a' := 50) C cf11 fH_RX11_49 hR aH_0 rfl dX11_canGive_13 ?_
      refine lv_aload_n C.1 C.2.1 dX11_canGive_16 rfl (lv_at hl 0 rfl) ?_
      refine ho_getR (a' := 1200) C cf11 fH_RX11_79 hR aH_0 rfl dX11_canGive_17 ?_
      obtain ⟨r1, S1, h1, h⟩ := ob2_ok h
      refine hr_Vi (v := r1) (S' := S1) (As := [.ref (E.2.1 1200)]) (rest := [.int x1]) C cf8 (c_X8_showable l E 1200 aH_1200 _ _ h1) yv_X8_showable lk_RX11_356 rfl aH_50 rfl rfl hl.1 (Nat.le_of_ble_eq_true rfl) (by decide) (by decide) hR (ho_A hR) dX11_canGive_20 (fun H locs hR => ?_)
      refine lv_iconst (v := (-1 : Int32)) C.1 C.2.1 dX11_canGive_23 (by decide) ?_
      refine lv_ixor C.1 C.2.1 dX11_canGive_24 ?_
      refine lv_iand C.1 C.2.1 dX11_canGive_25 ?_
      refine lv_if_ne (tgt := 33) C.1 C.2.1 dX11_canGive_26 (by decide) (fun hc => ?_) (fun hc => ?_)
      · replace h := if_f h hc
        refine lv_iconst (v := (0 : Int32)) C.1 C.2.1 dX11_canGive_33 (by decide) ?_
        exact ho_zret C hR (Or.inl rfl) h dX11_canGive_34
      · replace h := if_t h hc
        refine lv_iconst (v := (1 : Int32)) C.1 C.2.1 dX11_canGive_29 (by decide) ?_
        refine lv_goto (tgt := 34) C.1 C.2.1 dX11_canGive_30 (by decide) ?_
        exact ho_zret C hR (Or.inr rfl) h dX11_canGive_34
theorem dX11_appears_0 : decode cX11_appears 0 = .ok (.aload_n 0, 1) := by decide +kernel
theorem dX11_appears_1 : decode cX11_appears 1 = .ok (.iload_n 1, 1) := by decide +kernel
theorem dX11_appears_2 : decode cX11_appears 2 = .ok (.invokevirtual 248, 3) := by decide +kernel
theorem dX11_appears_5 : decode cX11_appears 5 = .ok (.ifCond .ne 5, 3) := by decide +kernel
theorem dX11_appears_8 : decode cX11_appears 8 = .ok (.iconst (-1), 1) := by decide +kernel
theorem dX11_appears_9 : decode cX11_appears 9 = .ok (.ireturn, 1) := by decide +kernel
theorem dX11_appears_10 : decode cX11_appears 10 = .ok (.aload_n 0, 1) := by decide +kernel
theorem dX11_appears_11 : decode cX11_appears 11 = .ok (.getfield 83, 3) := by decide +kernel
theorem dX11_appears_14 : decode cX11_appears 14 = .ok (.aload_n 0, 1) := by decide +kernel
theorem dX11_appears_15 : decode cX11_appears 15 = .ok (.getfield 79, 3) := by decide +kernel
theorem dX11_appears_18 : decode cX11_appears 18 = .ok (.invokevirtual 226, 3) := by decide +kernel
theorem dX11_appears_21 : decode cX11_appears 21 = .ok (.aload_n 0, 1) := by decide +kernel
theorem dX11_appears_22 : decode cX11_appears 22 = .ok (.getfield 49, 3) := by decide +kernel
theorem dX11_appears_25 : decode cX11_appears 25 = .ok (.aload_n 0, 1) := by decide +kernel
theorem dX11_appears_26 : decode cX11_appears 26 = .ok (.getfield 83, 3) := by decide +kernel
theorem dX11_appears_29 : decode cX11_appears 29 = .ok (.invokevirtual 230, 3) := by decide +kernel
theorem dX11_appears_32 : decode cX11_appears 32 = .ok (.aload_n 0, 1) := by decide +kernel
theorem dX11_appears_33 : decode cX11_appears 33 = .ok (.getfield 49, 3) := by decide +kernel
theorem dX11_appears_36 : decode cX11_appears 36 = .ok (.aload_n 0, 1) := by decide +kernel
theorem dX11_appears_37 : decode cX11_appears 37 = .ok (.getfield 83, 3) := by decide +kernel
theorem dX11_appears_40 : decode cX11_appears 40 = .ok (.iload_n 1, 1) := by decide +kernel
theorem dX11_appears_41 : decode cX11_appears 41 = .ok (.invokevirtual 251, 3) := by decide +kernel
theorem dX11_appears_44 : decode cX11_appears 44 = .ok (.ireturn, 1) := by decide +kernel
def f_X11_appears (x1 : Int32) (S : Hp) : Option (Int32 × Hp) :=
  ob2 (f_X11_canGive x1 S) (fun r1 S1 => if r1 = 0 then some ((-1 : Int32), S1) else ob (f_X9_copy 1210 1200 S1) (fun S2 => ob (f_X8_ripen 1210 S2) (fun S3 => ob2 (f_X8_takeAll 1210 x1 S3) (fun r4 S4 => some (r4, S4)))))
set_option maxHeartbeats 4000000 in
set_option maxRecDepth 100000 in
theorem c_X11_appears (l : Launch) (E : Ev) (x1 : Int32) (S : Hp) (r : (Int32 × Hp)) (h : f_X11_appears x1 S = some r) : ho_M l yH E yX11_appears cX11_appears 2 (some .int) 3 [.ref (E.2.1 0), .int x1] S (some (.int r.1), r.2) := by
  refine ho_in (by decide) (Nat.le_of_ble_eq_true rfl) ?_
  intro p e s m args below meth c C hR ls hl
  have C : ho_I p s m args meth c RX11 cX11_appears 2 (some .int) := C
  have hl : lv_has ls 2 [(0, .ref (E.2.1 0)), (1, .int x1)] := hl
  unfold f_X11_appears at h
  refine lv_aload_n C.1 C.2.1 dX11_appears_0 rfl (lv_at hl 0 rfl) ?_
  refine lv_iload_n C.1 C.2.1 dX11_appears_1 rfl (lv_at hl 1 rfl) ?_
  obtain ⟨r1, S1, h1, h⟩ := ob2_ok h
  refine hr_Vi (v := r1) (S' := S1) (As := [.int x1]) (rest := []) C cf11 (c_X11_canGive l E x1 _ _ h1) yv_X11_canGive lk_RX11_248 rfl aH_0 rfl rfl hl.1 (Nat.le_of_ble_eq_true rfl) (by decide) (by decide) hR (ho_A hR) dX11_appears_2 (fun H locs hR => ?_)
  refine lv_if_ne (tgt := 10) C.1 C.2.1 dX11_appears_5 (by decide) (fun hc => ?_) (fun hc => ?_)
  · replace h := if_f h hc
    refine lv_aload_n C.1 C.2.1 dX11_appears_10 rfl (lv_at hl 0 rfl) ?_
    refine ho_getR (a' := 1210) C cf11 fH_RX11_83 hR aH_0 rfl dX11_appears_11 ?_
    refine lv_aload_n C.1 C.2.1 dX11_appears_14 rfl (lv_at hl 0 rfl) ?_
    refine ho_getR (a' := 1200) C cf11 fH_RX11_79 hR aH_0 rfl dX11_appears_15 ?_
    obtain ⟨S2, h2, h⟩ := ob_ok h
    refine hr_Vv (S' := S2) (As := [.ref (E.2.1 1200)]) (rest := []) C cf9 (c_X9_copy l E 1210 1200 aH_1210 aH_1200 _ _ h2) yv_X9_copy lk_RX11_226 rfl aH_1210 rfl rfl hl.1 (Nat.le_of_ble_eq_true rfl) (by decide) (by decide) hR (ho_A hR) dX11_appears_18 (fun H locs hR => ?_)
    refine lv_aload_n C.1 C.2.1 dX11_appears_21 rfl (lv_at hl 0 rfl) ?_
    refine ho_getR (a' := 50) C cf11 fH_RX11_49 hR aH_0 rfl dX11_appears_22 ?_
    refine lv_aload_n C.1 C.2.1 dX11_appears_25 rfl (lv_at hl 0 rfl) ?_
    refine ho_getR (a' := 1210) C cf11 fH_RX11_83 hR aH_0 rfl dX11_appears_26 ?_
    obtain ⟨S3, h3, h⟩ := ob_ok h
    refine hr_Vv (S' := S3) (As := [.ref (E.2.1 1210)]) (rest := []) C cf8 (c_X8_ripen l E 1210 aH_1210 _ _ h3) yv_X8_ripen lk_RX11_230 rfl aH_50 rfl rfl hl.1 (Nat.le_of_ble_eq_true rfl) (by decide) (by decide) hR (ho_A hR) dX11_appears_29 (fun H locs hR => ?_)
    refine lv_aload_n C.1 C.2.1 dX11_appears_32 rfl (lv_at hl 0 rfl) ?_
    refine ho_getR (a' := 50) C cf11 fH_RX11_49 hR aH_0 rfl dX11_appears_33 ?_
    refine lv_aload_n C.1 C.2.1 dX11_appears_36 rfl (lv_at hl 0 rfl) ?_
    refine ho_getR (a' := 1210) C cf11 fH_RX11_83 hR aH_0 rfl dX11_appears_37 ?_
    refine lv_iload_n C.1 C.2.1 dX11_appears_40 rfl (lv_at hl 1 rfl) ?_
    obtain ⟨r4, S4, h4, h⟩ := ob2_ok h
    refine hr_Vi (v := r4) (S' := S4) (As := [.ref (E.2.1 1210), .int x1]) (rest := []) C cf8 (c_X8_takeAll l E 1210 x1 aH_1210 _ _ h4) yv_X8_takeAll lk_RX11_251 rfl aH_50 rfl rfl hl.1 (Nat.le_of_ble_eq_true rfl) (by decide) (by decide) hR (ho_A hR) dX11_appears_41 (fun H locs hR => ?_)
    exact ho_iret C hR h dX11_appears_44
  · replace h := if_t h hc
    refine lv_iconst (v := (-1 : Int32)) C.1 C.2.1 dX11_appears_8 (by decide) ?_
    exact ho_iret C hR h dX11_appears_9
theorem dX11_later_0 : decode cX11_later 0 = .ok (.aload_n 0, 1) := by decide +kernel
theorem dX11_later_1 : decode cX11_later 1 = .ok (.getfield 94, 3) := by decide +kernel
theorem dX11_later_4 : decode cX11_later 4 = .ok (.ifCond .eq 18, 3) := by decide +kernel
theorem dX11_later_7 : decode cX11_later 7 = .ok (.aload_n 0, 1) := by decide +kernel
theorem dX11_later_8 : decode cX11_later 8 = .ok (.getfield 58, 3) := by decide +kernel
theorem dX11_later_11 : decode cX11_later 11 = .ok (.aload_n 0, 1) := by decide +kernel
theorem dX11_later_12 : decode cX11_later 12 = .ok (.getfield 79, 3) := by decide +kernel
theorem dX11_later_15 : decode cX11_later 15 = .ok (.iload_n 1, 1) := by decide +kernel
theorem dX11_later_16 : decode cX11_later 16 = .ok (.invokevirtual 254, 3) := by decide +kernel
theorem dX11_later_19 : decode cX11_later 19 = .ok (.ifCond .ne 5, 3) := by decide +kernel
theorem dX11_later_22 : decode cX11_later 22 = .ok (.iconst (-1), 1) := by decide +kernel
theorem dX11_later_23 : decode cX11_later 23 = .ok (.ireturn, 1) := by decide +kernel
theorem dX11_later_24 : decode cX11_later 24 = .ok (.iload_n 2, 1) := by decide +kernel
theorem dX11_later_25 : decode cX11_later 25 = .ok (.tableswitch 71 0 3 #[31, 41, 51, 61], 31) := by decide +kernel
theorem dX11_later_56 : decode cX11_later 56 = .ok (.aload_n 0, 1) := by decide +kernel
theorem dX11_later_57 : decode cX11_later 57 = .ok (.getfield 58, 3) := by decide +kernel
theorem dX11_later_60 : decode cX11_later 60 = .ok (.getfield 258, 3) := by decide +kernel
theorem dX11_later_63 : decode cX11_later 63 = .ok (.iload_n 1, 1) := by decide +kernel
theorem dX11_later_64 : decode cX11_later 64 = .ok (.iaload, 1) := by decide +kernel
theorem dX11_later_65 : decode cX11_later 65 = .ok (.ireturn, 1) := by decide +kernel
theorem dX11_later_66 : decode cX11_later 66 = .ok (.aload_n 0, 1) := by decide +kernel
theorem dX11_later_67 : decode cX11_later 67 = .ok (.getfield 58, 3) := by decide +kernel
theorem dX11_later_70 : decode cX11_later 70 = .ok (.getfield 261, 3) := by decide +kernel
theorem dX11_later_73 : decode cX11_later 73 = .ok (.iload_n 1, 1) := by decide +kernel
theorem dX11_later_74 : decode cX11_later 74 = .ok (.iaload, 1) := by decide +kernel
theorem dX11_later_75 : decode cX11_later 75 = .ok (.ireturn, 1) := by decide +kernel
theorem dX11_later_76 : decode cX11_later 76 = .ok (.aload_n 0, 1) := by decide +kernel
theorem dX11_later_77 : decode cX11_later 77 = .ok (.getfield 58, 3) := by decide +kernel
theorem dX11_later_80 : decode cX11_later 80 = .ok (.getfield 264, 3) := by decide +kernel
theorem dX11_later_83 : decode cX11_later 83 = .ok (.iload_n 1, 1) := by decide +kernel
theorem dX11_later_84 : decode cX11_later 84 = .ok (.iaload, 1) := by decide +kernel
theorem dX11_later_85 : decode cX11_later 85 = .ok (.ireturn, 1) := by decide +kernel
theorem dX11_later_86 : decode cX11_later 86 = .ok (.aload_n 0, 1) := by decide +kernel
theorem dX11_later_87 : decode cX11_later 87 = .ok (.getfield 58, 3) := by decide +kernel
theorem dX11_later_90 : decode cX11_later 90 = .ok (.getfield 267, 3) := by decide +kernel
theorem dX11_later_93 : decode cX11_later 93 = .ok (.iload_n 1, 1) := by decide +kernel
theorem dX11_later_94 : decode cX11_later 94 = .ok (.iaload, 1) := by decide +kernel
theorem dX11_later_95 : decode cX11_later 95 = .ok (.ireturn, 1) := by decide +kernel
theorem dX11_later_96 : decode cX11_later 96 = .ok (.iconst (-1), 1) := by decide +kernel
theorem dX11_later_97 : decode cX11_later 97 = .ok (.ireturn, 1) := by decide +kernel
def f_X11_later (x1 : Int32) (x2 : Int32) (S : Hp) : Option (Int32 × Hp) :=
  if (S.1 0 13) = 0 then some ((-1 : Int32), S) else ob2 (f_X0_reach 1200 x1 S) (fun r1 S1 => if r1 = 0 then some ((-1 : Int32), S1) else if x2 = (0 : Int32) then ldI S1 61 61 x1 (fun v2 => some (v2, S1)) else if x2 = (1 : Int32) then ldI S1 62 61 x1 (fun v3 => some (v3, S1)) else if x2 = (2 : Int32) then ldI S1 63 61 x1 (fun v4 => some (v4, S1)) else if x2 = (3 : Int32) then ldI S1 64 61 x1 (fun v5 => some (v5, S1)) else some ((-1 : Int32), S1))
set_option maxHeartbeats 4000000 in
set_option maxRecDepth 100000 in
theorem c_X11_later (l : Launch) (E : Ev) (x1 : Int32) (x2 : Int32) (S : Hp) (r : (Int32 × Hp)) (h : f_X11_later x1 x2 S = some r) : ho_M l yH E yX11_later cX11_later 3 (some .int) 7 [.ref (E.2.1 0), .int x1, .int x2] S (some (.int r.1), r.2) := by
  refine ho_in (by decide) (Nat.le_of_ble_eq_true rfl) ?_
  intro p e s m args below meth c C hR ls hl
  have C : ho_I p s m args meth c RX11 cX11_later 3 (some .int) := C
  have hl : lv_has ls 3 [(0, .ref (E.2.1 0)), (1, .int x1), (2, .int x2)] := hl
  unfold f_X11_later at h
  refine lv_aload_n C.1 C.2.1 dX11_later_0 rfl (lv_at hl 0 rfl) ?_
  refine ho_getI C cf11 fH_RX11_94 hR aH_0 dX11_later_1 ?_
  refine lv_if_eq (tgt := 22) C.1 C.2.1 dX11_later_4 (by decide) (fun hc => ?_) (fun hc => ?_)
  · replace h := if_t h hc
    refine lv_iconst (v := (-1 : Int32)) C.1 C.2.1 dX11_later_22 (by decide) ?_
    exact ho_iret C hR h dX11_later_23
  · replace h := if_f h hc
    refine lv_aload_n C.1 C.2.1 dX11_later_7 rfl (lv_at hl 0 rfl) ?_
    refine ho_getR (a' := 60) C cf11 fH_RX11_58 hR aH_0 rfl dX11_later_8 ?_
    refine lv_aload_n C.1 C.2.1 dX11_later_11 rfl (lv_at hl 0 rfl) ?_
    refine ho_getR (a' := 1200) C cf11 fH_RX11_79 hR aH_0 rfl dX11_later_12 ?_
    refine lv_iload_n C.1 C.2.1 dX11_later_15 rfl (lv_at hl 1 rfl) ?_
    obtain ⟨r1, S1, h1, h⟩ := ob2_ok h
    refine hr_Vi (v := r1) (S' := S1) (As := [.ref (E.2.1 1200), .int x1]) (rest := []) C cf0 (c_X0_reach l E 1200 x1 aH_1200 _ _ h1) yv_X0_reach lk_RX11_254 rfl aH_60 rfl rfl hl.1 (Nat.le_of_ble_eq_true rfl) (by decide) (by decide) hR (ho_A hR) dX11_later_16 (fun H locs hR => ?_)
    refine lv_if_ne (tgt := 24) C.1 C.2.1 dX11_later_19 (by decide) (fun hc => ?_) (fun hc => ?_)
    · replace h := if_f h hc
      refine lv_iload_n C.1 C.2.1 dX11_later_24 rfl (lv_at hl 2 rfl) ?_
      by_cases hc0 : x2 = (0 : Int32)
      · replace h := if_t h hc0
        have hx : (x2).toInt = 0 := by rw [hc0]; decide
        refine lv_tableIn (off := 31) (tgt := 56) C.1 C.2.1 dX11_later_25 (by rw [hx]; decide) (by rw [hx]; decide) (by rw [hx]; decide) (by decide) ?_
        refine lv_aload_n C.1 C.2.1 dX11_later_56 rfl (lv_at hl 0 rfl) ?_
        refine ho_getR (a' := 60) C cf11 fH_RX11_58 hR aH_0 rfl dX11_later_57 ?_
        refine ho_getR (a' := 61) C cf0 fH_RX11_258 hR aH_60 rfl dX11_later_60 ?_
        refine lv_iload_n C.1 C.2.1 dX11_later_63 rfl (lv_at hl 1 rfl) ?_
        obtain ⟨v2, e2, hi2, h⟩ := ldI_ok h
        refine hr_ild C hR aH_61 hi2 e2 dX11_later_64 ?_
        exact ho_iret C hR h dX11_later_65
      · replace h := if_f h hc0
        by_cases hc1 : x2 = (1 : Int32)
        · replace h := if_t h hc1
          have hx : (x2).toInt = 1 := by rw [hc1]; decide
          refine lv_tableIn (off := 41) (tgt := 66) C.1 C.2.1 dX11_later_25 (by rw [hx]; decide) (by rw [hx]; decide) (by rw [hx]; decide) (by decide) ?_
          refine lv_aload_n C.1 C.2.1 dX11_later_66 rfl (lv_at hl 0 rfl) ?_
          refine ho_getR (a' := 60) C cf11 fH_RX11_58 hR aH_0 rfl dX11_later_67 ?_
          refine ho_getR (a' := 62) C cf0 fH_RX11_261 hR aH_60 rfl dX11_later_70 ?_
          refine lv_iload_n C.1 C.2.1 dX11_later_73 rfl (lv_at hl 1 rfl) ?_
          obtain ⟨v3, e3, hi3, h⟩ := ldI_ok h
          refine hr_ild C hR aH_62 hi3 e3 dX11_later_74 ?_
          exact ho_iret C hR h dX11_later_75
        · replace h := if_f h hc1
          by_cases hc2 : x2 = (2 : Int32)
          · replace h := if_t h hc2
            have hx : (x2).toInt = 2 := by rw [hc2]; decide
            refine lv_tableIn (off := 51) (tgt := 76) C.1 C.2.1 dX11_later_25 (by rw [hx]; decide) (by rw [hx]; decide) (by rw [hx]; decide) (by decide) ?_
            refine lv_aload_n C.1 C.2.1 dX11_later_76 rfl (lv_at hl 0 rfl) ?_
            refine ho_getR (a' := 60) C cf11 fH_RX11_58 hR aH_0 rfl dX11_later_77 ?_
            refine ho_getR (a' := 63) C cf0 fH_RX11_264 hR aH_60 rfl dX11_later_80 ?_
            refine lv_iload_n C.1 C.2.1 dX11_later_83 rfl (lv_at hl 1 rfl) ?_
            obtain ⟨v4, e4, hi4, h⟩ := ldI_ok h
            refine hr_ild C hR aH_63 hi4 e4 dX11_later_84 ?_
            exact ho_iret C hR h dX11_later_85
          · replace h := if_f h hc2
            by_cases hc3 : x2 = (3 : Int32)
            · replace h := if_t h hc3
              have hx : (x2).toInt = 3 := by rw [hc3]; decide
              refine lv_tableIn (off := 61) (tgt := 86) C.1 C.2.1 dX11_later_25 (by rw [hx]; decide) (by rw [hx]; decide) (by rw [hx]; decide) (by decide) ?_
              refine lv_aload_n C.1 C.2.1 dX11_later_86 rfl (lv_at hl 0 rfl) ?_
              refine ho_getR (a' := 60) C cf11 fH_RX11_58 hR aH_0 rfl dX11_later_87 ?_
              refine ho_getR (a' := 64) C cf0 fH_RX11_267 hR aH_60 rfl dX11_later_90 ?_
              refine lv_iload_n C.1 C.2.1 dX11_later_93 rfl (lv_at hl 1 rfl) ?_
              obtain ⟨v5, e5, hi5, h⟩ := ldI_ok h
              refine hr_ild C hR aH_64 hi5 e5 dX11_later_94 ?_
              exact ho_iret C hR h dX11_later_95
            · replace h := if_f h hc3
              have hx0 := lv_neT hc0 (a := 0) (by decide)
              have hx1 := lv_neT hc1 (a := 1) (by decide)
              have hx2 := lv_neT hc2 (a := 2) (by decide)
              have hx3 := lv_neT hc3 (a := 3) (by decide)
              refine lv_tableOut (tgt := 96) C.1 C.2.1 dX11_later_25 (by omega) (by decide) ?_
              refine lv_iconst (v := (-1 : Int32)) C.1 C.2.1 dX11_later_96 (by decide) ?_
              exact ho_iret C hR h dX11_later_97
    · replace h := if_t h hc
      refine lv_iconst (v := (-1 : Int32)) C.1 C.2.1 dX11_later_22 (by decide) ?_
      exact ho_iret C hR h dX11_later_23
theorem dX11_curtain_0 : decode cX11_curtain 0 = .ok (.aload_n 0, 1) := by decide +kernel
theorem dX11_curtain_1 : decode cX11_curtain 1 = .ok (.getfield 94, 3) := by decide +kernel
theorem dX11_curtain_4 : decode cX11_curtain 4 = .ok (.ifCond .ne 5, 3) := by decide +kernel
theorem dX11_curtain_7 : decode cX11_curtain 7 = .ok (.iconst (-1), 1) := by decide +kernel
theorem dX11_curtain_8 : decode cX11_curtain 8 = .ok (.ireturn, 1) := by decide +kernel
theorem dX11_curtain_9 : decode cX11_curtain 9 = .ok (.iconst 0, 1) := by decide +kernel
theorem dX11_curtain_10 : decode cX11_curtain 10 = .ok (.istore_n 1, 1) := by decide +kernel
theorem dX11_curtain_11 : decode cX11_curtain 11 = .ok (.iload_n 1, 1) := by decide +kernel
theorem dX11_curtain_12 : decode cX11_curtain 12 = .ok (.bipush 60, 2) := by decide +kernel
theorem dX11_curtain_14 : decode cX11_curtain 14 = .ok (.if_icmp .gt 40, 3) := by decide +kernel
theorem dX11_curtain_17 : decode cX11_curtain 17 = .ok (.aload_n 0, 1) := by decide +kernel
theorem dX11_curtain_18 : decode cX11_curtain 18 = .ok (.getfield 58, 3) := by decide +kernel
theorem dX11_curtain_21 : decode cX11_curtain 21 = .ok (.aload_n 0, 1) := by decide +kernel
theorem dX11_curtain_22 : decode cX11_curtain 22 = .ok (.getfield 79, 3) := by decide +kernel
theorem dX11_curtain_25 : decode cX11_curtain 25 = .ok (.iload_n 1, 1) := by decide +kernel
theorem dX11_curtain_26 : decode cX11_curtain 26 = .ok (.invokevirtual 254, 3) := by decide +kernel
theorem dX11_curtain_29 : decode cX11_curtain 29 = .ok (.ifCond .ne 5, 3) := by decide +kernel
theorem dX11_curtain_32 : decode cX11_curtain 32 = .ok (.iconst (-1), 1) := by decide +kernel
theorem dX11_curtain_33 : decode cX11_curtain 33 = .ok (.ireturn, 1) := by decide +kernel
theorem dX11_curtain_34 : decode cX11_curtain 34 = .ok (.aload_n 0, 1) := by decide +kernel
theorem dX11_curtain_35 : decode cX11_curtain 35 = .ok (.getfield 58, 3) := by decide +kernel
theorem dX11_curtain_38 : decode cX11_curtain 38 = .ok (.getfield 261, 3) := by decide +kernel
theorem dX11_curtain_41 : decode cX11_curtain 41 = .ok (.iload_n 1, 1) := by decide +kernel
theorem dX11_curtain_42 : decode cX11_curtain 42 = .ok (.iaload, 1) := by decide +kernel
theorem dX11_curtain_43 : decode cX11_curtain 43 = .ok (.ifCond .ne 5, 3) := by decide +kernel
theorem dX11_curtain_46 : decode cX11_curtain 46 = .ok (.iload_n 1, 1) := by decide +kernel
theorem dX11_curtain_47 : decode cX11_curtain 47 = .ok (.ireturn, 1) := by decide +kernel
theorem dX11_curtain_48 : decode cX11_curtain 48 = .ok (.iinc 1 1, 3) := by decide +kernel
theorem dX11_curtain_51 : decode cX11_curtain 51 = .ok (.goto (-40), 3) := by decide +kernel
theorem dX11_curtain_54 : decode cX11_curtain 54 = .ok (.iconst (-1), 1) := by decide +kernel
theorem dX11_curtain_55 : decode cX11_curtain 55 = .ok (.ireturn, 1) := by decide +kernel
def f_X11_curtain_11 : Nat → Int32 → Hp → Option (Int32 × Hp)
  | 0, _, _ => none
  | k + 1, x1, S => if (60 : Int32) < x1 then some ((-1 : Int32), S) else ob2 (f_X0_reach 1200 x1 S) (fun r1 S1 => if r1 = 0 then some ((-1 : Int32), S1) else ldI S1 62 61 x1 (fun v2 => if v2 = 0 then some (x1, S1) else le1 (x1 + (1 : Int32)) (fun v3 => f_X11_curtain_11 k v3 S1)))
set_option maxHeartbeats 4000000 in
set_option maxRecDepth 100000 in
theorem w_X11_curtain_11 {p : Program} {l : Launch} {e : Env} {s : State} {m : MethodId} {args : Array Value} {below : List Frame} {meth : Method} {c : Code} {E : Ev} {S0 : Hp} {r : (Int32 × Hp)} (C : ho_I p s m args meth c RX11 cX11_curtain 2 (some .int)) :
    ∀ (k : Nat) (x1 : Int32) (S : Hp), f_X11_curtain_11 k x1 S = some r → ho_G p l e s m args below meth c yH E S0 7 2 (some (.int r.1), r.2) 11 [(0, .ref (E.2.1 0)), (1, .int x1)] [] S := by
  intro k
  induction k with
  | zero =>
    intro x1 S h
    exact absurd (show (none : Option (Int32 × Hp)) = some r from h) (by simp)
  | succ k ih =>
    intro x1 S h H locs ls hR hl
    rw [f_X11_curtain_11] at h
    refine lv_iload_n C.1 C.2.1 dX11_curtain_11 rfl (lv_at hl 1 rfl) ?_
    refine lv_bipush (v := (60 : Int32)) C.1 C.2.1 dX11_curtain_12 (by decide) ?_
    refine lv_icmp_gt (tgt := 54) C.1 C.2.1 dX11_curtain_14 (by decide) (fun hc => ?_) (fun hc => ?_)
    · replace h := if_t h hc
      refine lv_iconst (v := (-1 : Int32)) C.1 C.2.1 dX11_curtain_54 (by decide) ?_
      exact ho_iret C hR h dX11_curtain_55
    · replace h := if_f h hc
      refine lv_aload_n C.1 C.2.1 dX11_curtain_17 rfl (lv_at hl 0 rfl) ?_
      refine ho_getR (a' := 60) C cf11 fH_RX11_58 hR aH_0 rfl dX11_curtain_18 ?_
      refine lv_aload_n C.1 C.2.1 dX11_curtain_21 rfl (lv_at hl 0 rfl) ?_
      refine ho_getR (a' := 1200) C cf11 fH_RX11_79 hR aH_0 rfl dX11_curtain_22 ?_
      refine lv_iload_n C.1 C.2.1 dX11_curtain_25 rfl (lv_at hl 1 rfl) ?_
      obtain ⟨r1, S1, h1, h⟩ := ob2_ok h
      refine hr_Vi (v := r1) (S' := S1) (As := [.ref (E.2.1 1200), .int x1]) (rest := []) C cf0 (c_X0_reach l E 1200 x1 aH_1200 _ _ h1) yv_X0_reach lk_RX11_254 rfl aH_60 rfl rfl hl.1 (Nat.le_of_ble_eq_true rfl) (by decide) (by decide) hR (ho_A hR) dX11_curtain_26 (fun H locs hR => ?_)
      refine lv_if_ne (tgt := 34) C.1 C.2.1 dX11_curtain_29 (by decide) (fun hc => ?_) (fun hc => ?_)
      · replace h := if_f h hc
        refine lv_aload_n C.1 C.2.1 dX11_curtain_34 rfl (lv_at hl 0 rfl) ?_
        refine ho_getR (a' := 60) C cf11 fH_RX11_58 hR aH_0 rfl dX11_curtain_35 ?_
        refine ho_getR (a' := 62) C cf0 fH_RX11_261 hR aH_60 rfl dX11_curtain_38 ?_
        refine lv_iload_n C.1 C.2.1 dX11_curtain_41 rfl (lv_at hl 1 rfl) ?_
        obtain ⟨v2, e2, hi2, h⟩ := ldI_ok h
        refine hr_ild C hR aH_62 hi2 e2 dX11_curtain_42 ?_
        refine lv_if_ne (tgt := 48) C.1 C.2.1 dX11_curtain_43 (by decide) (fun hc => ?_) (fun hc => ?_)
        · replace h := if_f h hc
          obtain ⟨v3, e3, h⟩ := le1_ok h
          refine lv_iinc (v := v3) (lv' := [(1, .int v3), (0, .ref (E.2.1 0))]) C.1 C.2.1 dX11_curtain_48 hl (k := 1) rfl (by rw [e3]; rfl) (by decide) rfl (fun ls hl => ?_)
          refine lv_goto (tgt := 11) C.1 C.2.1 dX11_curtain_51 (by decide) ?_
          exact ih v3 S1 h _ _ _ hR (lv_sub hl [1, 0] rfl)
        · replace h := if_t h hc
          refine lv_iload_n C.1 C.2.1 dX11_curtain_46 rfl (lv_at hl 1 rfl) ?_
          exact ho_iret C hR h dX11_curtain_47
      · replace h := if_t h hc
        refine lv_iconst (v := (-1 : Int32)) C.1 C.2.1 dX11_curtain_32 (by decide) ?_
        exact ho_iret C hR h dX11_curtain_33
def f_X11_curtain (S : Hp) : Option (Int32 × Hp) :=
  if (S.1 0 13) = 0 then some ((-1 : Int32), S) else f_X11_curtain_11 5000 (0 : Int32) S
set_option maxHeartbeats 4000000 in
set_option maxRecDepth 100000 in
theorem c_X11_curtain (l : Launch) (E : Ev) (S : Hp) (r : (Int32 × Hp)) (h : f_X11_curtain S = some r) : ho_M l yH E yX11_curtain cX11_curtain 2 (some .int) 7 [.ref (E.2.1 0)] S (some (.int r.1), r.2) := by
  refine ho_in (by decide) (Nat.le_of_ble_eq_true rfl) ?_
  intro p e s m args below meth c C hR ls hl
  have C : ho_I p s m args meth c RX11 cX11_curtain 2 (some .int) := C
  have hl : lv_has ls 2 [(0, .ref (E.2.1 0))] := hl
  unfold f_X11_curtain at h
  refine lv_aload_n C.1 C.2.1 dX11_curtain_0 rfl (lv_at hl 0 rfl) ?_
  refine ho_getI C cf11 fH_RX11_94 hR aH_0 dX11_curtain_1 ?_
  refine lv_if_ne (tgt := 9) C.1 C.2.1 dX11_curtain_4 (by decide) (fun hc => ?_) (fun hc => ?_)
  · replace h := if_f h hc
    refine lv_iconst (v := (0 : Int32)) C.1 C.2.1 dX11_curtain_9 (by decide) ?_
    refine lv_istore_n (lv' := [(1, .int (0 : Int32)), (0, .ref (E.2.1 0))]) C.1 C.2.1 dX11_curtain_10 rfl hl (by decide) rfl (fun ls hl => ?_)
    exact w_X11_curtain_11 C 5000 (0 : Int32) S h _ _ _ hR (lv_sub hl [1, 0] rfl)
  · replace h := if_t h hc
    refine lv_iconst (v := (-1 : Int32)) C.1 C.2.1 dX11_curtain_7 (by decide) ?_
    exact ho_iret C hR h dX11_curtain_8
theorem dX11_both_0 : decode cX11_both 0 = .ok (.aload_n 0, 1) := by decide +kernel
theorem dX11_both_1 : decode cX11_both 1 = .ok (.getfield 94, 3) := by decide +kernel
theorem dX11_both_4 : decode cX11_both 4 = .ok (.ifCond .eq 27, 3) := by decide +kernel
theorem dX11_both_7 : decode cX11_both 7 = .ok (.iload_n 1, 1) := by decide +kernel
theorem dX11_both_8 : decode cX11_both 8 = .ok (.ifCond .lt 23, 3) := by decide +kernel
theorem dX11_both_11 : decode cX11_both 11 = .ok (.iload_n 1, 1) := by decide +kernel
theorem dX11_both_12 : decode cX11_both 12 = .ok (.iconst 4, 1) := by decide +kernel
theorem dX11_both_13 : decode cX11_both 13 = .ok (.if_icmp .ge 18, 3) := by decide +kernel
theorem dX11_both_16 : decode cX11_both 16 = .ok (.aload_n 0, 1) := by decide +kernel
theorem dX11_both_17 : decode cX11_both 17 = .ok (.getfield 79, 3) := by decide +kernel
theorem dX11_both_20 : decode cX11_both 20 = .ok (.getfield 149, 3) := by decide +kernel
theorem dX11_both_23 : decode cX11_both 23 = .ok (.iconst 2, 1) := by decide +kernel
theorem dX11_both_24 : decode cX11_both 24 = .ok (.iadd, 1) := by decide +kernel
theorem dX11_both_25 : decode cX11_both 25 = .ok (.sipush 999, 3) := by decide +kernel
theorem dX11_both_28 : decode cX11_both 28 = .ok (.if_icmp .le 5, 3) := by decide +kernel
theorem dX11_both_31 : decode cX11_both 31 = .ok (.iconst (-1), 1) := by decide +kernel
theorem dX11_both_32 : decode cX11_both 32 = .ok (.ireturn, 1) := by decide +kernel
theorem dX11_both_33 : decode cX11_both 33 = .ok (.aload_n 0, 1) := by decide +kernel
theorem dX11_both_34 : decode cX11_both 34 = .ok (.getfield 58, 3) := by decide +kernel
theorem dX11_both_37 : decode cX11_both 37 = .ok (.aload_n 0, 1) := by decide +kernel
theorem dX11_both_38 : decode cX11_both 38 = .ok (.getfield 79, 3) := by decide +kernel
theorem dX11_both_41 : decode cX11_both 41 = .ok (.invokevirtual 270, 3) := by decide +kernel
theorem dX11_both_44 : decode cX11_both 44 = .ok (.aload_n 0, 1) := by decide +kernel
theorem dX11_both_45 : decode cX11_both 45 = .ok (.getfield 58, 3) := by decide +kernel
theorem dX11_both_48 : decode cX11_both 48 = .ok (.getfield 273, 3) := by decide +kernel
theorem dX11_both_51 : decode cX11_both 51 = .ok (.iload_n 1, 1) := by decide +kernel
theorem dX11_both_52 : decode cX11_both 52 = .ok (.iaload, 1) := by decide +kernel
theorem dX11_both_53 : decode cX11_both 53 = .ok (.ireturn, 1) := by decide +kernel
def f_X11_both (x1 : Int32) (S : Hp) : Option (Int32 × Hp) :=
  if (S.1 0 13) = 0 then some ((-1 : Int32), S) else if x1 < 0 then some ((-1 : Int32), S) else if (4 : Int32) ≤ x1 then some ((-1 : Int32), S) else if ((S.1 1200 0) + (2 : Int32)) ≤ (999 : Int32) then ob (f_X0_findPair 1200 S) (fun S1 => ldI S1 65 4 x1 (fun v2 => some (v2, S1))) else some ((-1 : Int32), S)
set_option maxHeartbeats 4000000 in
set_option maxRecDepth 100000 in
theorem c_X11_both (l : Launch) (E : Ev) (x1 : Int32) (S : Hp) (r : (Int32 × Hp)) (h : f_X11_both x1 S = some r) : ho_M l yH E yX11_both cX11_both 2 (some .int) 7 [.ref (E.2.1 0), .int x1] S (some (.int r.1), r.2) := by
  refine ho_in (by decide) (Nat.le_of_ble_eq_true rfl) ?_
  intro p e s m args below meth c C hR ls hl
  have C : ho_I p s m args meth c RX11 cX11_both 2 (some .int) := C
  have hl : lv_has ls 2 [(0, .ref (E.2.1 0)), (1, .int x1)] := hl
  unfold f_X11_both at h
  refine lv_aload_n C.1 C.2.1 dX11_both_0 rfl (lv_at hl 0 rfl) ?_
  refine ho_getI C cf11 fH_RX11_94 hR aH_0 dX11_both_1 ?_
  refine lv_if_eq (tgt := 31) C.1 C.2.1 dX11_both_4 (by decide) (fun hc => ?_) (fun hc => ?_)
  · replace h := if_t h hc
    refine lv_iconst (v := (-1 : Int32)) C.1 C.2.1 dX11_both_31 (by decide) ?_
    exact ho_iret C hR h dX11_both_32
  · replace h := if_f h hc
    refine lv_iload_n C.1 C.2.1 dX11_both_7 rfl (lv_at hl 1 rfl) ?_
    refine lv_if_lt (tgt := 31) C.1 C.2.1 dX11_both_8 (by decide) (fun hc => ?_) (fun hc => ?_)
    · replace h := if_t h hc
      refine lv_iconst (v := (-1 : Int32)) C.1 C.2.1 dX11_both_31 (by decide) ?_
      exact ho_iret C hR h dX11_both_32
    · replace h := if_f h hc
      refine lv_iload_n C.1 C.2.1 dX11_both_11 rfl (lv_at hl 1 rfl) ?_
      refine lv_iconst (v := (4 : Int32)) C.1 C.2.1 dX11_both_12 (by decide) ?_
      refine lv_icmp_ge (tgt := 31) C.1 C.2.1 dX11_both_13 (by decide) (fun hc => ?_) (fun hc => ?_)
      · replace h := if_t h hc
        refine lv_iconst (v := (-1 : Int32)) C.1 C.2.1 dX11_both_31 (by decide) ?_
        exact ho_iret C hR h dX11_both_32
      · replace h := if_f h hc
        refine lv_aload_n C.1 C.2.1 dX11_both_16 rfl (lv_at hl 0 rfl) ?_
        refine ho_getR (a' := 1200) C cf11 fH_RX11_79 hR aH_0 rfl dX11_both_17 ?_
        refine ho_getI C cf9 fH_RX11_149 hR aH_1200 dX11_both_20 ?_
        refine lv_iconst (v := (2 : Int32)) C.1 C.2.1 dX11_both_23 (by decide) ?_
        refine lv_iadd C.1 C.2.1 dX11_both_24 ?_
        refine lv_sipush (v := (999 : Int32)) C.1 C.2.1 dX11_both_25 (by decide) ?_
        refine lv_icmp_le (tgt := 33) C.1 C.2.1 dX11_both_28 (by decide) (fun hc => ?_) (fun hc => ?_)
        · replace h := if_t h hc
          refine lv_aload_n C.1 C.2.1 dX11_both_33 rfl (lv_at hl 0 rfl) ?_
          refine ho_getR (a' := 60) C cf11 fH_RX11_58 hR aH_0 rfl dX11_both_34 ?_
          refine lv_aload_n C.1 C.2.1 dX11_both_37 rfl (lv_at hl 0 rfl) ?_
          refine ho_getR (a' := 1200) C cf11 fH_RX11_79 hR aH_0 rfl dX11_both_38 ?_
          obtain ⟨S1, h1, h⟩ := ob_ok h
          refine hr_Vv (S' := S1) (As := [.ref (E.2.1 1200)]) (rest := []) C cf0 (c_X0_findPair l E 1200 aH_1200 _ _ h1) yv_X0_findPair lk_RX11_270 rfl aH_60 rfl rfl hl.1 (Nat.le_of_ble_eq_true rfl) (by decide) (by decide) hR (ho_A hR) dX11_both_41 (fun H locs hR => ?_)
          refine lv_aload_n C.1 C.2.1 dX11_both_44 rfl (lv_at hl 0 rfl) ?_
          refine ho_getR (a' := 60) C cf11 fH_RX11_58 hR aH_0 rfl dX11_both_45 ?_
          refine ho_getR (a' := 65) C cf0 fH_RX11_273 hR aH_60 rfl dX11_both_48 ?_
          refine lv_iload_n C.1 C.2.1 dX11_both_51 rfl (lv_at hl 1 rfl) ?_
          obtain ⟨v2, e2, hi2, h⟩ := ldI_ok h
          refine hr_ild C hR aH_65 hi2 e2 dX11_both_52 ?_
          exact ho_iret C hR h dX11_both_53
        · replace h := if_f h hc
          refine lv_iconst (v := (-1 : Int32)) C.1 C.2.1 dX11_both_31 (by decide) ?_
          exact ho_iret C hR h dX11_both_32
