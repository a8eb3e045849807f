theorem dX11_octet_0 : decode cX11_octet 0 = .ok (.iload_n 1, 1) := by decide +kernel
theorem dX11_octet_1 : decode cX11_octet 1 = .ok (.ifCond .lt 14, 3) := by decide +kernel
theorem dX11_octet_4 : decode cX11_octet 4 = .ok (.iload_n 1, 1) := by decide +kernel
theorem dX11_octet_5 : decode cX11_octet 5 = .ok (.aload_n 0, 1) := by decide +kernel
theorem dX11_octet_6 : decode cX11_octet 6 = .ok (.getfield 72, 3) := by decide +kernel
theorem dX11_octet_9 : decode cX11_octet 9 = .ok (.getfield 344, 3) := by decide +kernel
theorem dX11_octet_12 : decode cX11_octet 12 = .ok (.if_icmp .lt 7, 3) := by decide +kernel
theorem dX11_octet_15 : decode cX11_octet 15 = .ok (.iconst (-1), 1) := by decide +kernel
theorem dX11_octet_16 : decode cX11_octet 16 = .ok (.goto 12, 3) := by decide +kernel
theorem dX11_octet_19 : decode cX11_octet 19 = .ok (.aload_n 0, 1) := by decide +kernel
theorem dX11_octet_20 : decode cX11_octet 20 = .ok (.getfield 72, 3) := by decide +kernel
theorem dX11_octet_23 : decode cX11_octet 23 = .ok (.getfield 345, 3) := by decide +kernel
theorem dX11_octet_26 : decode cX11_octet 26 = .ok (.iload_n 1, 1) := by decide +kernel
theorem dX11_octet_27 : decode cX11_octet 27 = .ok (.iaload, 1) := by decide +kernel
theorem dX11_octet_28 : decode cX11_octet 28 = .ok (.ireturn, 1) := by decide +kernel
def f_X11_octet_15 (S : Hp) : Option (Int32 × Hp) :=
  some ((-1 : Int32), S)
set_option maxHeartbeats 4000000 in
set_option maxRecDepth 100000 in
theorem w_X11_octet_15 {p : Program} {l : Launch} {e : Env} {s : State} {m : MethodId} {args : Array Value} {below : List Frame} {meth : Method} {c : Code} {E : Ev} {S0 : Hp} {r : (Int32 × Hp)} (C : ho_I p s m args meth c RX11 cX11_octet 2 (some .int)) :
    ∀ (S : Hp), f_X11_octet_15 S = some r → ho_G p l e s m args below meth c yH E S0 0 2 (some (.int r.1), r.2) 15 [] [] S := by
  intro S h H locs ls hR hl
  unfold f_X11_octet_15 at h
  refine lv_iconst (v := (-1 : Int32)) C.1 C.2.1 dX11_octet_15 (by decide) ?_
  refine lv_goto (tgt := 28) C.1 C.2.1 dX11_octet_16 (by decide) ?_
  exact ho_iret C hR h dX11_octet_28
def f_X11_octet (x1 : Int32) (S : Hp) : Option (Int32 × Hp) :=
  if x1 < 0 then f_X11_octet_15 S else if x1 < (S.1 90 1) then ldI S 91 48 x1 (fun v1 => some (v1, S)) else f_X11_octet_15 S
set_option maxHeartbeats 4000000 in
set_option maxRecDepth 100000 in
theorem c_X11_octet (l : Launch) (E : Ev) (x1 : Int32) (S : Hp) (r : (Int32 × Hp)) (h : f_X11_octet x1 S = some r) : ho_M l yH E yX11_octet cX11_octet 2 (some .int) 0 [.ref (E.2.1 0), .int x1] S (some (.int r.1), r.2) := by
  refine ho_in (by decide) (Nat.le_of_ble_eq_true rfl) ?_
  intro p e s m args below meth c C hR ls hl
  have C : ho_I p s m args meth c RX11 cX11_octet 2 (some .int) := C
  have hl : lv_has ls 2 [(0, .ref (E.2.1 0)), (1, .int x1)] := hl
  unfold f_X11_octet at h
  refine lv_iload_n C.1 C.2.1 dX11_octet_0 rfl (lv_at hl 1 rfl) ?_
  refine lv_if_lt (tgt := 15) C.1 C.2.1 dX11_octet_1 (by decide) (fun hc => ?_) (fun hc => ?_)
  · replace h := if_t h hc
    exact w_X11_octet_15 C S h _ _ _ hR (lv_sub hl [] rfl)
  · replace h := if_f h hc
    refine lv_iload_n C.1 C.2.1 dX11_octet_4 rfl (lv_at hl 1 rfl) ?_
    refine lv_aload_n C.1 C.2.1 dX11_octet_5 rfl (lv_at hl 0 rfl) ?_
    refine ho_getR (a' := 90) C cf11 fH_RX11_72 hR aH_0 rfl dX11_octet_6 ?_
    refine ho_getI C cf5 fH_RX11_344 hR aH_90 dX11_octet_9 ?_
    refine lv_icmp_lt (tgt := 19) C.1 C.2.1 dX11_octet_12 (by decide) (fun hc => ?_) (fun hc => ?_)
    · replace h := if_t h hc
      refine lv_aload_n C.1 C.2.1 dX11_octet_19 rfl (lv_at hl 0 rfl) ?_
      refine ho_getR (a' := 90) C cf11 fH_RX11_72 hR aH_0 rfl dX11_octet_20 ?_
      refine ho_getR (a' := 91) C cf5 fH_RX11_345 hR aH_90 rfl dX11_octet_23 ?_
      refine lv_iload_n C.1 C.2.1 dX11_octet_26 rfl (lv_at hl 1 rfl) ?_
      obtain ⟨v1, e1, hi1, h⟩ := ldI_ok h
      refine hr_ild C hR aH_91 hi1 e1 dX11_octet_27 ?_
      exact ho_iret C hR h dX11_octet_28
    · replace h := if_f h hc
      exact w_X11_octet_15 C S h _ _ _ hR (lv_sub hl [] rfl)
theorem dX11_on_0 : decode cX11_on 0 = .ok (.aload_n 0, 1) := by decide +kernel
theorem dX11_on_1 : decode cX11_on 1 = .ok (.getfield 94, 3) := by decide +kernel
theorem dX11_on_4 : decode cX11_on 4 = .ok (.ifCond .eq 25, 3) := by decide +kernel
theorem dX11_on_7 : decode cX11_on 7 = .ok (.aload_n 0, 1) := by decide +kernel
theorem dX11_on_8 : decode cX11_on 8 = .ok (.getfield 72, 3) := by decide +kernel
theorem dX11_on_11 : decode cX11_on 11 = .ok (.aload_n 0, 1) := by decide +kernel
theorem dX11_on_12 : decode cX11_on 12 = .ok (.getfield 10, 3) := by decide +kernel
theorem dX11_on_15 : decode cX11_on 15 = .ok (.aload_n 0, 1) := by decide +kernel
theorem dX11_on_16 : decode cX11_on 16 = .ok (.getfield 19, 3) := by decide +kernel
theorem dX11_on_19 : decode cX11_on 19 = .ok (.invokevirtual 348, 3) := by decide +kernel
theorem dX11_on_22 : decode cX11_on 22 = .ok (.ifCond .eq 7, 3) := by decide +kernel
theorem dX11_on_25 : decode cX11_on 25 = .ok (.iconst 1, 1) := by decide +kernel
theorem dX11_on_26 : decode cX11_on 26 = .ok (.goto 4, 3) := by decide +kernel
theorem dX11_on_29 : decode cX11_on 29 = .ok (.iconst 0, 1) := by decide +kernel
theorem dX11_on_30 : decode cX11_on 30 = .ok (.istore_n 1, 1) := by decide +kernel
theorem dX11_on_31 : decode cX11_on 31 = .ok (.iload_n 1, 1) := by decide +kernel
theorem dX11_on_32 : decode cX11_on 32 = .ok (.ifCond .eq 26, 3) := by decide +kernel
theorem dX11_on_35 : decode cX11_on 35 = .ok (.aload_n 0, 1) := by decide +kernel
theorem dX11_on_36 : decode cX11_on 36 = .ok (.getfield 72, 3) := by decide +kernel
theorem dX11_on_39 : decode cX11_on 39 = .ok (.aload_n 0, 1) := by decide +kernel
theorem dX11_on_40 : decode cX11_on 40 = .ok (.getfield 10, 3) := by decide +kernel
theorem dX11_on_43 : decode cX11_on 43 = .ok (.aload_n 0, 1) := by decide +kernel
theorem dX11_on_44 : decode cX11_on 44 = .ok (.getfield 19, 3) := by decide +kernel
theorem dX11_on_47 : decode cX11_on 47 = .ok (.aload_n 0, 1) := by decide +kernel
theorem dX11_on_48 : decode cX11_on 48 = .ok (.getfield 79, 3) := by decide +kernel
theorem dX11_on_51 : decode cX11_on 51 = .ok (.invokevirtual 352, 3) := by decide +kernel
theorem dX11_on_54 : decode cX11_on 54 = .ok (.aload_n 0, 1) := by decide +kernel
theorem dX11_on_55 : decode cX11_on 55 = .ok (.invokevirtual 134, 3) := by decide +kernel
theorem dX11_on_58 : decode cX11_on 58 = .ok (.aload_n 0, 1) := by decide +kernel
theorem dX11_on_59 : decode cX11_on 59 = .ok (.getfield 10, 3) := by decide +kernel
theorem dX11_on_62 : decode cX11_on 62 = .ok (.iconst 0, 1) := by decide +kernel
theorem dX11_on_63 : decode cX11_on 63 = .ok (.putfield 108, 3) := by decide +kernel
theorem dX11_on_66 : decode cX11_on 66 = .ok (.iload_n 1, 1) := by decide +kernel
theorem dX11_on_67 : decode cX11_on 67 = .ok (.ifCond .ne 11, 3) := by decide +kernel
theorem dX11_on_70 : decode cX11_on 70 = .ok (.aload_n 0, 1) := by decide +kernel
theorem dX11_on_71 : decode cX11_on 71 = .ok (.iconst 5, 1) := by decide +kernel
theorem dX11_on_72 : decode cX11_on 72 = .ok (.invokevirtual 119, 3) := by decide +kernel
theorem dX11_on_75 : decode cX11_on 75 = .ok (.ifCond .eq 7, 3) := by decide +kernel
theorem dX11_on_78 : decode cX11_on 78 = .ok (.iconst 1, 1) := by decide +kernel
theorem dX11_on_79 : decode cX11_on 79 = .ok (.goto 4, 3) := by decide +kernel
theorem dX11_on_82 : decode cX11_on 82 = .ok (.iconst 0, 1) := by decide +kernel
theorem dX11_on_83 : decode cX11_on 83 = .ok (.ireturn, 1) := by decide +kernel
def f_X11_on_78 (S : Hp) : Option (Int32 × Hp) :=
  some ((1 : Int32), S)
set_option maxHeartbeats 4000000 in
set_option maxRecDepth 100000 in
theorem w_X11_on_78 {p : Program} {l : Launch} {e : Env} {s : State} {m : MethodId} {args : Array Value} {below : List Frame} {meth : Method} {c : Code} {E : Ev} {S0 : Hp} {r : (Int32 × Hp)} (C : ho_I p s m args meth c RX11 cX11_on 2 (some .boolean)) :
    ∀ (S : Hp), f_X11_on_78 S = some r → ho_G p l e s m args below meth c yH E S0 3 2 (some (.int r.1), r.2) 78 [] [] S := by
  intro S h H locs ls hR hl
  unfold f_X11_on_78 at h
  refine lv_iconst (v := (1 : Int32)) C.1 C.2.1 dX11_on_78 (by decide) ?_
  refine lv_goto (tgt := 83) C.1 C.2.1 dX11_on_79 (by decide) ?_
  exact ho_zret C hR (Or.inr rfl) h dX11_on_83
def f_X11_on_58 (x1 : Int32) (S : Hp) : Option (Int32 × Hp) :=
  le1 (ho_sI S 10 1 (0 : Int32)) (fun S1 => if x1 = 0 then ob2 (f_X11_refuses (5 : Int32) S1) (fun r2 S2 => if r2 = 0 then some ((0 : Int32), S2) else f_X11_on_78 S2) else f_X11_on_78 S1)
set_option maxHeartbeats 4000000 in
set_option maxRecDepth 100000 in
theorem w_X11_on_58 {p : Program} {l : Launch} {e : Env} {s : State} {m : MethodId} {args : Array Value} {below : List Frame} {meth : Method} {c : Code} {E : Ev} {S0 : Hp} {r : (Int32 × Hp)} (C : ho_I p s m args meth c RX11 cX11_on 2 (some .boolean)) :
    ∀ (x1 : Int32) (S : Hp), f_X11_on_58 x1 S = some r → ho_G p l e s m args below meth c yH E S0 3 2 (some (.int r.1), r.2) 58 [(0, .ref (E.2.1 0)), (1, .int x1)] [] S := by
  intro x1 S h H locs ls hR hl
  unfold f_X11_on_58 at h
  refine lv_aload_n C.1 C.2.1 dX11_on_58 rfl (lv_at hl 0 rfl) ?_
  refine ho_getR (a' := 10) C cf11 fH_RX11_10 hR aH_0 rfl dX11_on_59 ?_
  refine lv_iconst (v := (0 : Int32)) C.1 C.2.1 dX11_on_62 (by decide) ?_
  obtain ⟨S1, e1, h⟩ := le1_ok h
  refine hr_putI C cf10 fH_RX11_108 hR aH_10 e1 dX11_on_63 (fun H locs hR => ?_)
  refine lv_iload_n C.1 C.2.1 dX11_on_66 rfl (lv_at hl 1 rfl) ?_
  refine lv_if_ne (tgt := 78) C.1 C.2.1 dX11_on_67 (by decide) (fun hc => ?_) (fun hc => ?_)
  · replace h := if_f h hc
    exact w_X11_on_78 C S1 h _ _ _ hR (lv_sub hl [] rfl)
  · replace h := if_t h hc
    refine lv_aload_n C.1 C.2.1 dX11_on_70 rfl (lv_at hl 0 rfl) ?_
    refine lv_iconst (v := (5 : Int32)) C.1 C.2.1 dX11_on_71 (by decide) ?_
    obtain ⟨r2, S2, h2, h⟩ := ob2_ok h
    refine hr_Vi (v := r2) (S' := S2) (As := [.int (5 : Int32)]) (rest := []) C cf11 (c_X11_refuses l E (5 : Int32) _ _ h2) yv_X11_refuses lk_RX11_119 rfl aH_0 rfl rfl hl.1 (Nat.le_of_ble_eq_true rfl) (by decide) (by decide) hR (ho_A hR) dX11_on_72 (fun H locs hR => ?_)
    refine lv_if_eq (tgt := 82) C.1 C.2.1 dX11_on_75 (by decide) (fun hc => ?_) (fun hc => ?_)
    · replace h := if_t h hc
      refine lv_iconst (v := (0 : Int32)) C.1 C.2.1 dX11_on_82 (by decide) ?_
      exact ho_zret C hR (Or.inl rfl) h dX11_on_83
    · replace h := if_f h hc
      exact w_X11_on_78 C S2 h _ _ _ hR (lv_sub hl [] rfl)
def f_X11_on_30 (z0 : Int32) (S : Hp) : Option (Int32 × Hp) :=
  if z0 = 0 then f_X11_on_58 z0 S else ldP yH S 0 1 2 (fun p1 => ob (f_X5_read p1 1200 S) (fun S2 => ob (f_X11_forgetPast S2) (fun S3 => f_X11_on_58 z0 S3)))
set_option maxHeartbeats 4000000 in
set_option maxRecDepth 100000 in
theorem w_X11_on_30 {p : Program} {l : Launch} {e : Env} {s : State} {m : MethodId} {args : Array Value} {below : List Frame} {meth : Method} {c : Code} {E : Ev} {S0 : Hp} {r : (Int32 × Hp)} (C : ho_I p s m args meth c RX11 cX11_on 2 (some .boolean)) :
    ∀ (z0 : Int32) (S : Hp), f_X11_on_30 z0 S = some r → ho_G p l e s m args below meth c yH E S0 3 2 (some (.int r.1), r.2) 30 [(0, .ref (E.2.1 0))] [.int z0] S := by
  intro z0 S h H locs ls hR hl
  unfold f_X11_on_30 at h
  refine lv_istore_n (lv' := [(1, .int z0), (0, .ref (E.2.1 0))]) C.1 C.2.1 dX11_on_30 rfl hl (by decide) rfl (fun ls hl => ?_)
  refine lv_iload_n C.1 C.2.1 dX11_on_31 rfl (lv_at hl 0 rfl) ?_
  refine lv_if_eq (tgt := 58) C.1 C.2.1 dX11_on_32 (by decide) (fun hc => ?_) (fun hc => ?_)
  · replace h := if_t h hc
    exact w_X11_on_58 C z0 S h _ _ _ hR (lv_sub hl [1, 0] rfl)
  · replace h := if_f h hc
    refine lv_aload_n C.1 C.2.1 dX11_on_35 rfl (lv_at hl 1 rfl) ?_
    refine ho_getR (a' := 90) C cf11 fH_RX11_72 hR aH_0 rfl dX11_on_36 ?_
    refine lv_aload_n C.1 C.2.1 dX11_on_39 rfl (lv_at hl 1 rfl) ?_
    refine ho_getR (a' := 10) C cf11 fH_RX11_10 hR aH_0 rfl dX11_on_40 ?_
    refine lv_aload_n C.1 C.2.1 dX11_on_43 rfl (lv_at hl 1 rfl) ?_
    obtain ⟨p1, e1, hp1, h⟩ := ldP_ok h
    refine hr_getP C cf11 fH_RX11_19 hR aH_0 e1 dX11_on_44 ?_
    refine lv_aload_n C.1 C.2.1 dX11_on_47 rfl (lv_at hl 1 rfl) ?_
    refine ho_getR (a' := 1200) C cf11 fH_RX11_79 hR aH_0 rfl dX11_on_48 ?_
    obtain ⟨S2, h2, h⟩ := ob_ok h
    refine hr_Vv (S' := S2) (As := [.ref (E.2.1 10), .ref (E.2.1 p1), .ref (E.2.1 1200)]) (rest := []) C cf5 (c_X5_read l E p1 1200 hp1 aH_1200 _ _ h2) yv_X5_read lk_RX11_352 rfl aH_90 rfl rfl hl.1 (Nat.le_of_ble_eq_true rfl) (by decide) (by decide) hR (ho_A hR) dX11_on_51 (fun H locs hR => ?_)
    refine lv_aload_n C.1 C.2.1 dX11_on_54 rfl (lv_at hl 1 rfl) ?_
    obtain ⟨S3, h3, h⟩ := ob_ok h
    refine hr_Vv (S' := S3) (As := []) (rest := []) C cf11 (c_X11_forgetPast l E _ _ h3) yv_X11_forgetPast lk_RX11_134 rfl aH_0 rfl rfl hl.1 (Nat.le_of_ble_eq_true rfl) (by decide) (by decide) hR (ho_A hR) dX11_on_55 (fun H locs hR => ?_)
    exact w_X11_on_58 C z0 S3 h _ _ _ hR (lv_sub hl [1, 0] rfl)
def f_X11_on_29 (S : Hp) : Option (Int32 × Hp) :=
  f_X11_on_30 (0 : Int32) S
set_option maxHeartbeats 4000000 in
set_option maxRecDepth 100000 in
theorem w_X11_on_29 {p : Program} {l : Launch} {e : Env} {s : State} {m : MethodId} {args : Array Value} {below : List Frame} {meth : Method} {c : Code} {E : Ev} {S0 : Hp} {r : (Int32 × Hp)} (C : ho_I p s m args meth c RX11 cX11_on 2 (some .boolean)) :
    ∀ (S : Hp), f_X11_on_29 S = some r → ho_G p l e s m args below meth c yH E S0 3 2 (some (.int r.1), r.2) 29 [(0, .ref (E.2.1 0))] [] S := by
  intro S h H locs ls hR hl
  unfold f_X11_on_29 at h
  refine lv_iconst (v := (0 : Int32)) C.1 C.2.1 dX11_on_29 (by decide) ?_
  exact w_X11_on_30 C (0 : Int32) S h _ _ _ hR (lv_sub hl [0] rfl)
def f_X11_on (S : Hp) : Option (Int32 × Hp) :=
  if (S.1 0 13) = 0 then f_X11_on_29 S else ldP yH S 0 1 2 (fun p1 => ob2 (f_X5_readable p1 S) (fun r2 S2 => if r2 = 0 then f_X11_on_29 S2 else f_X11_on_30 (1 : Int32) S2))
set_option maxHeartbeats 4000000 in
set_option maxRecDepth 100000 in
theorem c_X11_on (l : Launch) (E : Ev) (S : Hp) (r : (Int32 × Hp)) (h : f_X11_on S = some r) : ho_M l yH E yX11_on cX11_on 2 (some .boolean) 3 [.ref (E.2.1 0)] S (some (.int r.1), r.2) := by
  refine ho_in (by decide) (Nat.le_of_ble_eq_true rfl) ?_
  intro p e s m args below meth c C hR ls hl
  have C : ho_I p s m args meth c RX11 cX11_on 2 (some .boolean) := C
  have hl : lv_has ls 2 [(0, .ref (E.2.1 0))] := hl
  unfold f_X11_on at h
  refine lv_aload_n C.1 C.2.1 dX11_on_0 rfl (lv_at hl 0 rfl) ?_
  refine ho_getI C cf11 fH_RX11_94 hR aH_0 dX11_on_1 ?_
  refine lv_if_eq (tgt := 29) C.1 C.2.1 dX11_on_4 (by decide) (fun hc => ?_) (fun hc => ?_)
  · replace h := if_t h hc
    exact w_X11_on_29 C S h _ _ _ hR (lv_sub hl [0] rfl)
  · replace h := if_f h hc
    refine lv_aload_n C.1 C.2.1 dX11_on_7 rfl (lv_at hl 0 rfl) ?_
    refine ho_getR (a' := 90) C cf11 fH_RX11_72 hR aH_0 rfl dX11_on_8 ?_
    refine lv_aload_n C.1 C.2.1 dX11_on_11 rfl (lv_at hl 0 rfl) ?_
    refine ho_getR (a' := 10) C cf11 fH_RX11_10 hR aH_0 rfl dX11_on_12 ?_
    refine lv_aload_n C.1 C.2.1 dX11_on_15 rfl (lv_at hl 0 rfl) ?_
    obtain ⟨p1, e1, hp1, h⟩ := ldP_ok h
    refine hr_getP C cf11 fH_RX11_19 hR aH_0 e1 dX11_on_16 ?_
    obtain ⟨r2, S2, h2, h⟩ := ob2_ok h
    refine hr_Vi (v := r2) (S' := S2) (As := [.ref (E.2.1 10), .ref (E.2.1 p1)]) (rest := []) C cf5 (c_X5_readable l E p1 hp1 _ _ h2) yv_X5_readable lk_RX11_348 rfl aH_90 rfl rfl hl.1 (Nat.le_of_ble_eq_true rfl) (by decide) (by decide) hR (ho_A hR) dX11_on_19 (fun H locs hR => ?_)
    refine lv_if_eq (tgt := 29) C.1 C.2.1 dX11_on_22 (by decide) (fun hc => ?_) (fun hc => ?_)
    · replace h := if_t h hc
      exact w_X11_on_29 C S2 h _ _ _ hR (lv_sub hl [0] rfl)
    · replace h := if_f h hc
      refine lv_iconst (v := (1 : Int32)) C.1 C.2.1 dX11_on_25 (by decide) ?_
      refine lv_goto (tgt := 30) C.1 C.2.1 dX11_on_26 (by decide) ?_
      exact w_X11_on_30 C (1 : Int32) S2 h _ _ _ hR (lv_sub hl [0] rfl)
theorem dX11_status_0 : decode cX11_status 0 = .ok (.iload_n 1, 1) := by decide +kernel
theorem dX11_status_1 : decode cX11_status 1 = .ok (.ifCond .lt 9, 3) := by decide +kernel
theorem dX11_status_4 : decode cX11_status 4 = .ok (.iload_n 1, 1) := by decide +kernel
theorem dX11_status_5 : decode cX11_status 5 = .ok (.bipush 6, 2) := by decide +kernel
theorem dX11_status_7 : decode cX11_status 7 = .ok (.if_icmp .lt 7, 3) := by decide +kernel
theorem dX11_status_10 : decode cX11_status 10 = .ok (.iconst (-1), 1) := by decide +kernel
theorem dX11_status_11 : decode cX11_status 11 = .ok (.goto 9, 3) := by decide +kernel
theorem dX11_status_14 : decode cX11_status 14 = .ok (.aload_n 0, 1) := by decide +kernel
theorem dX11_status_15 : decode cX11_status 15 = .ok (.getfield 90, 3) := by decide +kernel
theorem dX11_status_18 : decode cX11_status 18 = .ok (.iload_n 1, 1) := by decide +kernel
theorem dX11_status_19 : decode cX11_status 19 = .ok (.iaload, 1) := by decide +kernel
theorem dX11_status_20 : decode cX11_status 20 = .ok (.ireturn, 1) := by decide +kernel
def f_X11_status_10 (S : Hp) : Option (Int32 × Hp) :=
  some ((-1 : Int32), S)
set_option maxHeartbeats 4000000 in
set_option maxRecDepth 100000 in
theorem w_X11_status_10 {p : Program} {l : Launch} {e : Env} {s : State} {m : MethodId} {args : Array Value} {below : List Frame} {meth : Method} {c : Code} {E : Ev} {S0 : Hp} {r : (Int32 × Hp)} (C : ho_I p s m args meth c RX11 cX11_status 2 (some .int)) :
    ∀ (S : Hp), f_X11_status_10 S = some r → ho_G p l e s m args below meth c yH E S0 0 2 (some (.int r.1), r.2) 10 [] [] S := by
  intro S h H locs ls hR hl
  unfold f_X11_status_10 at h
  refine lv_iconst (v := (-1 : Int32)) C.1 C.2.1 dX11_status_10 (by decide) ?_
  refine lv_goto (tgt := 20) C.1 C.2.1 dX11_status_11 (by decide) ?_
  exact ho_iret C hR h dX11_status_20
def f_X11_status (x1 : Int32) (S : Hp) : Option (Int32 × Hp) :=
  if x1 < 0 then f_X11_status_10 S else if x1 < (6 : Int32) then ldI S 1 6 x1 (fun v1 => some (v1, S)) else f_X11_status_10 S
set_option maxHeartbeats 4000000 in
set_option maxRecDepth 100000 in
theorem c_X11_status (l : Launch) (E : Ev) (x1 : Int32) (S : Hp) (r : (Int32 × Hp)) (h : f_X11_status x1 S = some r) : ho_M l yH E yX11_status cX11_status 2 (some .int) 0 [.ref (E.2.1 0), .int x1] S (some (.int r.1), r.2) := by
  refine ho_in (by decide) (Nat.le_of_ble_eq_true rfl) ?_
  intro p e s m args below meth c C hR ls hl
  have C : ho_I p s m args meth c RX11 cX11_status 2 (some .int) := C
  have hl : lv_has ls 2 [(0, .ref (E.2.1 0)), (1, .int x1)] := hl
  unfold f_X11_status at h
  refine lv_iload_n C.1 C.2.1 dX11_status_0 rfl (lv_at hl 1 rfl) ?_
  refine lv_if_lt (tgt := 10) C.1 C.2.1 dX11_status_1 (by decide) (fun hc => ?_) (fun hc => ?_)
  · replace h := if_t h hc
    exact w_X11_status_10 C S h _ _ _ hR (lv_sub hl [] rfl)
  · replace h := if_f h hc
    refine lv_iload_n C.1 C.2.1 dX11_status_4 rfl (lv_at hl 1 rfl) ?_
    refine lv_bipush (v := (6 : Int32)) C.1 C.2.1 dX11_status_5 (by decide) ?_
    refine lv_icmp_lt (tgt := 14) C.1 C.2.1 dX11_status_7 (by decide) (fun hc => ?_) (fun hc => ?_)
    · replace h := if_t h hc
      refine lv_aload_n C.1 C.2.1 dX11_status_14 rfl (lv_at hl 0 rfl) ?_
      refine ho_getR (a' := 1) C cf11 fH_RX11_90 hR aH_0 rfl dX11_status_15 ?_
      refine lv_iload_n C.1 C.2.1 dX11_status_18 rfl (lv_at hl 1 rfl) ?_
      obtain ⟨v1, e1, hi1, h⟩ := ldI_ok h
      refine hr_ild C hR aH_1 hi1 e1 dX11_status_19 ?_
      exact ho_iret C hR h dX11_status_20
    · replace h := if_f h hc
      exact w_X11_status_10 C S h _ _ _ hR (lv_sub hl [] rfl)
