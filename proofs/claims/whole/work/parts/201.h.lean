theorem dX8_sightOfShow_0 : decode cX8_sightOfShow 0 = .ok (.iconst 0, 1) := by decide +kernel
theorem dX8_sightOfShow_1 : decode cX8_sightOfShow 1 = .ok (.istore_n 2, 1) := by decide +kernel
theorem dX8_sightOfShow_2 : decode cX8_sightOfShow 2 = .ok (.iconst 0, 1) := by decide +kernel
theorem dX8_sightOfShow_3 : decode cX8_sightOfShow 3 = .ok (.istore_n 3, 1) := by decide +kernel
theorem dX8_sightOfShow_4 : decode cX8_sightOfShow 4 = .ok (.iload_n 3, 1) := by decide +kernel
theorem dX8_sightOfShow_5 : decode cX8_sightOfShow 5 = .ok (.aload_n 0, 1) := by decide +kernel
theorem dX8_sightOfShow_6 : decode cX8_sightOfShow 6 = .ok (.getfield 36, 3) := by decide +kernel
theorem dX8_sightOfShow_9 : decode cX8_sightOfShow 9 = .ok (.getfield 75, 3) := by decide +kernel
theorem dX8_sightOfShow_12 : decode cX8_sightOfShow 12 = .ok (.iconst 1, 1) := by decide +kernel
theorem dX8_sightOfShow_13 : decode cX8_sightOfShow 13 = .ok (.iaload, 1) := by decide +kernel
theorem dX8_sightOfShow_14 : decode cX8_sightOfShow 14 = .ok (.if_icmp .ge 27, 3) := by decide +kernel
theorem dX8_sightOfShow_17 : decode cX8_sightOfShow 17 = .ok (.iload_n 1, 1) := by decide +kernel
theorem dX8_sightOfShow_18 : decode cX8_sightOfShow 18 = .ok (.iload_n 3, 1) := by decide +kernel
theorem dX8_sightOfShow_19 : decode cX8_sightOfShow 19 = .ok (.ishr, 1) := by decide +kernel
theorem dX8_sightOfShow_20 : decode cX8_sightOfShow 20 = .ok (.iconst 1, 1) := by decide +kernel
theorem dX8_sightOfShow_21 : decode cX8_sightOfShow 21 = .ok (.iand, 1) := by decide +kernel
theorem dX8_sightOfShow_22 : decode cX8_sightOfShow 22 = .ok (.iconst 1, 1) := by decide +kernel
theorem dX8_sightOfShow_23 : decode cX8_sightOfShow 23 = .ok (.if_icmp .ne 12, 3) := by decide +kernel
theorem dX8_sightOfShow_26 : decode cX8_sightOfShow 26 = .ok (.iload_n 2, 1) := by decide +kernel
theorem dX8_sightOfShow_27 : decode cX8_sightOfShow 27 = .ok (.aload_n 0, 1) := by decide +kernel
theorem dX8_sightOfShow_28 : decode cX8_sightOfShow 28 = .ok (.getfield 9, 3) := by decide +kernel
theorem dX8_sightOfShow_31 : decode cX8_sightOfShow 31 = .ok (.iload_n 3, 1) := by decide +kernel
theorem dX8_sightOfShow_32 : decode cX8_sightOfShow 32 = .ok (.iaload, 1) := by decide +kernel
theorem dX8_sightOfShow_33 : decode cX8_sightOfShow 33 = .ok (.iadd, 1) := by decide +kernel
theorem dX8_sightOfShow_34 : decode cX8_sightOfShow 34 = .ok (.istore_n 2, 1) := by decide +kernel
theorem dX8_sightOfShow_35 : decode cX8_sightOfShow 35 = .ok (.iinc 3 1, 3) := by decide +kernel
theorem dX8_sightOfShow_38 : decode cX8_sightOfShow 38 = .ok (.goto (-34), 3) := by decide +kernel
theorem dX8_sightOfShow_41 : decode cX8_sightOfShow 41 = .ok (.iload_n 2, 1) := by decide +kernel
theorem dX8_sightOfShow_42 : decode cX8_sightOfShow 42 = .ok (.ireturn, 1) := by decide +kernel
def f_X8_sightOfShow_35 (K4 : Int32 → Int32 → Int32 → Hp → Option (Int32 × Hp)) (x1 : Int32) (x2 : Int32) (x3 : Int32) (S : Hp) : Option (Int32 × Hp) :=
  le1 (x3 + (1 : Int32)) (fun v1 => K4 x1 x2 v1 S)
set_option maxHeartbeats 4000000 in
set_option maxRecDepth 100000 in
theorem w_X8_sightOfShow_35 {p : Program} {l : Launch} {e : Env} {s : State} {m : MethodId} {args : Array Value} {below : List Frame} {meth : Method} {c : Code} {E : Ev} {S0 : Hp} {r : (Int32 × Hp)} (C : ho_I p s m args meth c RX8 cX8_sightOfShow 4 (some .int)) (K4 : Int32 → Int32 → Int32 → Hp → Option (Int32 × Hp)) (hK4 : ∀ (y1 : Int32) (y2 : Int32) (y3 : Int32) (S : Hp), K4 y1 y2 y3 S = some r → ho_G p l e s m args below meth c yH E S0 0 4 (some (.int r.1), r.2) 4 [(0, .ref (E.2.1 50)), (1, .int y1), (2, .int y2), (3, .int y3)] [] S) :
    ∀ (x1 : Int32) (x2 : Int32) (x3 : Int32) (S : Hp), f_X8_sightOfShow_35 K4 x1 x2 x3 S = some r → ho_G p l e s m args below meth c yH E S0 0 4 (some (.int r.1), r.2) 35 [(0, .ref (E.2.1 50)), (1, .int x1), (2, .int x2), (3, .int x3)] [] S := by
  intro x1 x2 x3 S h H locs ls hR hl
  unfold f_X8_sightOfShow_35 at h
  obtain ⟨v1, e1, h⟩ := le1_ok h
  refine lv_iinc (v := v1) (lv' := [(3, .int v1), (0, .ref (E.2.1 50)), (1, .int x1), (2, .int x2)]) C.1 C.2.1 dX8_sightOfShow_35 hl (k := 3) rfl (by rw [e1]; rfl) (by decide) rfl (fun ls hl => ?_)
  refine lv_goto (tgt := 4) C.1 C.2.1 dX8_sightOfShow_38 (by decide) ?_
  exact hK4 x1 x2 v1 S h _ _ _ hR (lv_sub hl [1, 2, 3, 0] rfl)
def f_X8_sightOfShow_4 : Nat → Int32 → Int32 → Int32 → Hp → Option (Int32 × Hp)
  | 0, _, _, _, _ => none
  | k + 1, x1, x2, x3, S => ldP yH S 50 0 2 (fun p1 => ldI S (p1 + 1) 3 (1 : Int32) (fun v2 => if v2 ≤ x3 then some (x2, S) else if ((x1 >>> (x3 &&& 31)) &&& (1 : Int32)) = (1 : Int32) then ldI S 51 6 x3 (fun v3 => le1 (x2 + v3) (fun v4 => f_X8_sightOfShow_35 (f_X8_sightOfShow_4 k) x1 v4 x3 S)) else f_X8_sightOfShow_35 (f_X8_sightOfShow_4 k) x1 x2 x3 S))
set_option maxHeartbeats 4000000 in
set_option maxRecDepth 100000 in
theorem w_X8_sightOfShow_4 {p : Program} {l : Launch} {e : Env} {s : State} {m : MethodId} {args : Array Value} {below : List Frame} {meth : Method} {c : Code} {E : Ev} {S0 : Hp} {r : (Int32 × Hp)} (C : ho_I p s m args meth c RX8 cX8_sightOfShow 4 (some .int)) :
    ∀ (k : Nat) (x1 : Int32) (x2 : Int32) (x3 : Int32) (S : Hp), f_X8_sightOfShow_4 k x1 x2 x3 S = some r → ho_G p l e s m args below meth c yH E S0 0 4 (some (.int r.1), r.2) 4 [(0, .ref (E.2.1 50)), (1, .int x1), (2, .int x2), (3, .int x3)] [] S := by
  intro k
  induction k with
  | zero =>
    intro x1 x2 x3 S h
    exact absurd (show (none : Option (Int32 × Hp)) = some r from h) (by simp)
  | succ k ih =>
    intro x1 x2 x3 S h H locs ls hR hl
    rw [f_X8_sightOfShow_4] at h
    refine lv_iload_n C.1 C.2.1 dX8_sightOfShow_4 rfl (lv_at hl 3 rfl) ?_
    refine lv_aload_n C.1 C.2.1 dX8_sightOfShow_5 rfl (lv_at hl 0 rfl) ?_
    obtain ⟨p1, e1, hp1, h⟩ := ldP_ok h
    refine hr_getP C cf8 fH_RX8_36 hR aH_50 e1 dX8_sightOfShow_6 ?_
    refine ho_getR (a' := (p1 + 1)) C cf2 fH_RX8_75 hR hp1 (pH_2_5 hp1.2) dX8_sightOfShow_9 ?_
    refine lv_iconst (v := (1 : Int32)) C.1 C.2.1 dX8_sightOfShow_12 (by decide) ?_
    obtain ⟨v2, e2, hi2, h⟩ := ldI_ok h
    refine hr_ild C hR (rH_2_1 hp1) hi2 e2 dX8_sightOfShow_13 ?_
    refine lv_icmp_ge (tgt := 41) C.1 C.2.1 dX8_sightOfShow_14 (by decide) (fun hc => ?_) (fun hc => ?_)
    · replace h := if_t h hc
      refine lv_iload_n C.1 C.2.1 dX8_sightOfShow_41 rfl (lv_at hl 2 rfl) ?_
      exact ho_iret C hR h dX8_sightOfShow_42
    · replace h := if_f h hc
      refine lv_iload_n C.1 C.2.1 dX8_sightOfShow_17 rfl (lv_at hl 1 rfl) ?_
      refine lv_iload_n C.1 C.2.1 dX8_sightOfShow_18 rfl (lv_at hl 3 rfl) ?_
      refine lv_ishr C.1 C.2.1 dX8_sightOfShow_19 ?_
      refine lv_iconst (v := (1 : Int32)) C.1 C.2.1 dX8_sightOfShow_20 (by decide) ?_
      refine lv_iand C.1 C.2.1 dX8_sightOfShow_21 ?_
      refine lv_iconst (v := (1 : Int32)) C.1 C.2.1 dX8_sightOfShow_22 (by decide) ?_
      refine lv_icmp_ne (tgt := 35) C.1 C.2.1 dX8_sightOfShow_23 (by decide) (fun hc => ?_) (fun hc => ?_)
      · replace h := if_f h hc
        exact w_X8_sightOfShow_35 C (f_X8_sightOfShow_4 k) ih x1 x2 x3 S h _ _ _ hR (lv_sub hl [0, 1, 2, 3] rfl)
      · replace h := if_t h hc
        refine lv_iload_n C.1 C.2.1 dX8_sightOfShow_26 rfl (lv_at hl 2 rfl) ?_
        refine lv_aload_n C.1 C.2.1 dX8_sightOfShow_27 rfl (lv_at hl 0 rfl) ?_
        refine ho_getR (a' := 51) C cf8 fH_RX8_9 hR aH_50 rfl dX8_sightOfShow_28 ?_
        refine lv_iload_n C.1 C.2.1 dX8_sightOfShow_31 rfl (lv_at hl 3 rfl) ?_
        obtain ⟨v3, e3, hi3, h⟩ := ldI_ok h
        refine hr_ild C hR aH_51 hi3 e3 dX8_sightOfShow_32 ?_
        refine lv_iadd C.1 C.2.1 dX8_sightOfShow_33 ?_
        refine lv_topi (fun v4 e4 => ?_)
        replace h := le1_at e4 h
        refine lv_istore_n (lv' := [(2, .int v4), (0, .ref (E.2.1 50)), (1, .int x1), (3, .int x3)]) C.1 C.2.1 dX8_sightOfShow_34 rfl hl (by decide) rfl (fun ls hl => ?_)
        exact w_X8_sightOfShow_35 C (f_X8_sightOfShow_4 k) ih x1 v4 x3 S h _ _ _ hR (lv_sub hl [1, 2, 0, 3] rfl)
def f_X8_sightOfShow (x1 : Int32) (S : Hp) : Option (Int32 × Hp) :=
  f_X8_sightOfShow_4 5000 x1 (0 : Int32) (0 : Int32) S
set_option maxHeartbeats 4000000 in
set_option maxRecDepth 100000 in
theorem c_X8_sightOfShow (l : Launch) (E : Ev) (x1 : Int32) (S : Hp) (r : (Int32 × Hp)) (h : f_X8_sightOfShow x1 S = some r) : ho_M l yH E yX8_sightOfShow cX8_sightOfShow 4 (some .int) 0 [.ref (E.2.1 50), .int x1] S (some (.int r.1), r.2) := by
  refine ho_in (by decide) (Nat.le_of_ble_eq_true rfl) ?_
  intro p e s m args below meth c C hR ls hl
  have C : ho_I p s m args meth c RX8 cX8_sightOfShow 4 (some .int) := C
  have hl : lv_has ls 4 [(0, .ref (E.2.1 50)), (1, .int x1)] := hl
  unfold f_X8_sightOfShow at h
  refine lv_iconst (v := (0 : Int32)) C.1 C.2.1 dX8_sightOfShow_0 (by decide) ?_
  refine lv_istore_n (lv' := [(2, .int (0 : Int32)), (0, .ref (E.2.1 50)), (1, .int x1)]) C.1 C.2.1 dX8_sightOfShow_1 rfl hl (by decide) rfl (fun ls hl => ?_)
  refine lv_iconst (v := (0 : Int32)) C.1 C.2.1 dX8_sightOfShow_2 (by decide) ?_
  refine lv_istore_n (lv' := [(3, .int (0 : Int32)), (2, .int (0 : Int32)), (0, .ref (E.2.1 50)), (1, .int x1)]) C.1 C.2.1 dX8_sightOfShow_3 rfl hl (by decide) rfl (fun ls hl => ?_)
  exact w_X8_sightOfShow_4 C 5000 x1 (0 : Int32) (0 : Int32) S h _ _ _ hR (lv_sub hl [2, 3, 1, 0] rfl)
theorem dJ6_bitCount_0f7a4_0 : decode cJ6_bitCount_0f7a4 0 = .ok (.iload_n 0, 1) := by decide +kernel
theorem dJ6_bitCount_0f7a4_1 : decode cJ6_bitCount_0f7a4 1 = .ok (.iload_n 0, 1) := by decide +kernel
theorem dJ6_bitCount_0f7a4_2 : decode cJ6_bitCount_0f7a4 2 = .ok (.iconst 1, 1) := by decide +kernel
theorem dJ6_bitCount_0f7a4_3 : decode cJ6_bitCount_0f7a4 3 = .ok (.iushr, 1) := by decide +kernel
theorem dJ6_bitCount_0f7a4_4 : decode cJ6_bitCount_0f7a4 4 = .ok (.ldc_w 265, 3) := by decide +kernel
theorem dJ6_bitCount_0f7a4_7 : decode cJ6_bitCount_0f7a4 7 = .ok (.iand, 1) := by decide +kernel
theorem dJ6_bitCount_0f7a4_8 : decode cJ6_bitCount_0f7a4 8 = .ok (.isub, 1) := by decide +kernel
theorem dJ6_bitCount_0f7a4_9 : decode cJ6_bitCount_0f7a4 9 = .ok (.istore_n 0, 1) := by decide +kernel
theorem dJ6_bitCount_0f7a4_10 : decode cJ6_bitCount_0f7a4 10 = .ok (.iload_n 0, 1) := by decide +kernel
theorem dJ6_bitCount_0f7a4_11 : decode cJ6_bitCount_0f7a4 11 = .ok (.ldc_w 266, 3) := by decide +kernel
theorem dJ6_bitCount_0f7a4_14 : decode cJ6_bitCount_0f7a4 14 = .ok (.iand, 1) := by decide +kernel
theorem dJ6_bitCount_0f7a4_15 : decode cJ6_bitCount_0f7a4 15 = .ok (.iload_n 0, 1) := by decide +kernel
theorem dJ6_bitCount_0f7a4_16 : decode cJ6_bitCount_0f7a4 16 = .ok (.iconst 2, 1) := by decide +kernel
theorem dJ6_bitCount_0f7a4_17 : decode cJ6_bitCount_0f7a4 17 = .ok (.iushr, 1) := by decide +kernel
theorem dJ6_bitCount_0f7a4_18 : decode cJ6_bitCount_0f7a4 18 = .ok (.ldc_w 266, 3) := by decide +kernel
theorem dJ6_bitCount_0f7a4_21 : decode cJ6_bitCount_0f7a4 21 = .ok (.iand, 1) := by decide +kernel
theorem dJ6_bitCount_0f7a4_22 : decode cJ6_bitCount_0f7a4 22 = .ok (.iadd, 1) := by decide +kernel
theorem dJ6_bitCount_0f7a4_23 : decode cJ6_bitCount_0f7a4 23 = .ok (.istore_n 0, 1) := by decide +kernel
theorem dJ6_bitCount_0f7a4_24 : decode cJ6_bitCount_0f7a4 24 = .ok (.iload_n 0, 1) := by decide +kernel
theorem dJ6_bitCount_0f7a4_25 : decode cJ6_bitCount_0f7a4 25 = .ok (.iload_n 0, 1) := by decide +kernel
theorem dJ6_bitCount_0f7a4_26 : decode cJ6_bitCount_0f7a4 26 = .ok (.iconst 4, 1) := by decide +kernel
theorem dJ6_bitCount_0f7a4_27 : decode cJ6_bitCount_0f7a4 27 = .ok (.iushr, 1) := by decide +kernel
theorem dJ6_bitCount_0f7a4_28 : decode cJ6_bitCount_0f7a4 28 = .ok (.iadd, 1) := by decide +kernel
theorem dJ6_bitCount_0f7a4_29 : decode cJ6_bitCount_0f7a4 29 = .ok (.ldc_w 267, 3) := by decide +kernel
theorem dJ6_bitCount_0f7a4_32 : decode cJ6_bitCount_0f7a4 32 = .ok (.iand, 1) := by decide +kernel
theorem dJ6_bitCount_0f7a4_33 : decode cJ6_bitCount_0f7a4 33 = .ok (.istore_n 0, 1) := by decide +kernel
theorem dJ6_bitCount_0f7a4_34 : decode cJ6_bitCount_0f7a4 34 = .ok (.iload_n 0, 1) := by decide +kernel
theorem dJ6_bitCount_0f7a4_35 : decode cJ6_bitCount_0f7a4 35 = .ok (.iload_n 0, 1) := by decide +kernel
theorem dJ6_bitCount_0f7a4_36 : decode cJ6_bitCount_0f7a4 36 = .ok (.bipush 8, 2) := by decide +kernel
theorem dJ6_bitCount_0f7a4_38 : decode cJ6_bitCount_0f7a4 38 = .ok (.iushr, 1) := by decide +kernel
theorem dJ6_bitCount_0f7a4_39 : decode cJ6_bitCount_0f7a4 39 = .ok (.iadd, 1) := by decide +kernel
theorem dJ6_bitCount_0f7a4_40 : decode cJ6_bitCount_0f7a4 40 = .ok (.istore_n 0, 1) := by decide +kernel
theorem dJ6_bitCount_0f7a4_41 : decode cJ6_bitCount_0f7a4 41 = .ok (.iload_n 0, 1) := by decide +kernel
theorem dJ6_bitCount_0f7a4_42 : decode cJ6_bitCount_0f7a4 42 = .ok (.iload_n 0, 1) := by decide +kernel
theorem dJ6_bitCount_0f7a4_43 : decode cJ6_bitCount_0f7a4 43 = .ok (.bipush 16, 2) := by decide +kernel
theorem dJ6_bitCount_0f7a4_45 : decode cJ6_bitCount_0f7a4 45 = .ok (.iushr, 1) := by decide +kernel
theorem dJ6_bitCount_0f7a4_46 : decode cJ6_bitCount_0f7a4 46 = .ok (.iadd, 1) := by decide +kernel
theorem dJ6_bitCount_0f7a4_47 : decode cJ6_bitCount_0f7a4 47 = .ok (.istore_n 0, 1) := by decide +kernel
theorem dJ6_bitCount_0f7a4_48 : decode cJ6_bitCount_0f7a4 48 = .ok (.iload_n 0, 1) := by decide +kernel
theorem dJ6_bitCount_0f7a4_49 : decode cJ6_bitCount_0f7a4 49 = .ok (.bipush 63, 2) := by decide +kernel
theorem dJ6_bitCount_0f7a4_51 : decode cJ6_bitCount_0f7a4 51 = .ok (.iand, 1) := by decide +kernel
theorem dJ6_bitCount_0f7a4_52 : decode cJ6_bitCount_0f7a4 52 = .ok (.ireturn, 1) := by decide +kernel
def f_J6_bitCount_0f7a4 (x0 : Int32) (S : Hp) : Option (Int32 × Hp) :=
  le1 (x0 - ((x0.toUInt32 >>> ((1 : Int32).toUInt32 &&& Int32.toUInt32 31)).toInt32 &&& (1431655765 : Int32))) (fun v1 => le1 ((v1 &&& (858993459 : Int32)) + ((v1.toUInt32 >>> ((2 : Int32).toUInt32 &&& Int32.toUInt32 31)).toInt32 &&& (858993459 : Int32))) (fun v2 => le1 ((v2 + (v2.toUInt32 >>> ((4 : Int32).toUInt32 &&& Int32.toUInt32 31)).toInt32) &&& (252645135 : Int32)) (fun v3 => le1 (v3 + (v3.toUInt32 >>> ((8 : Int32).toUInt32 &&& Int32.toUInt32 31)).toInt32) (fun v4 => le1 (v4 + (v4.toUInt32 >>> ((16 : Int32).toUInt32 &&& Int32.toUInt32 31)).toInt32) (fun v5 => some ((v5 &&& (63 : Int32)), S))))))
set_option maxHeartbeats 4000000 in
set_option maxRecDepth 100000 in
theorem c_J6_bitCount_0f7a4 (l : Launch) (E : Ev) (x0 : Int32) (S : Hp) (r : (Int32 × Hp)) (h : f_J6_bitCount_0f7a4 x0 S = some r) : ho_M l yH E yJ6_bitCount_0f7a4 cJ6_bitCount_0f7a4 1 (some .int) 0 [.int x0] S (some (.int r.1), r.2) := by
  refine ho_in (by decide) (Nat.le_of_ble_eq_true rfl) ?_
  intro p e s m args below meth c C hR ls hl
  have C : ho_I p s m args meth c RJ6 cJ6_bitCount_0f7a4 1 (some .int) := C
  have hl : lv_has ls 1 [(0, .int x0)] := hl
  unfold f_J6_bitCount_0f7a4 at h
  refine lv_iload_n C.1 C.2.1 dJ6_bitCount_0f7a4_0 rfl (lv_at hl 0 rfl) ?_
  refine lv_iload_n C.1 C.2.1 dJ6_bitCount_0f7a4_1 rfl (lv_at hl 0 rfl) ?_
  refine lv_iconst (v := (1 : Int32)) C.1 C.2.1 dJ6_bitCount_0f7a4_2 (by decide) ?_
  refine lv_iushr (v := (x0.toUInt32 >>> ((1 : Int32).toUInt32 &&& Int32.toUInt32 31)).toInt32) C.1 C.2.1 dJ6_bitCount_0f7a4_3 rfl ?_
  refine lv_ldcw (v := (1431655765 : Int32)) C.1 C.2.1 C.2.2.2.2.1 (C.2.2.2.2.2.1 _ kc_RJ6_265) dJ6_bitCount_0f7a4_4 ?_
  refine lv_iand C.1 C.2.1 dJ6_bitCount_0f7a4_7 ?_
  refine lv_isub C.1 C.2.1 dJ6_bitCount_0f7a4_8 ?_
  refine lv_topi (fun v1 e1 => ?_)
  replace h := le1_at e1 h
  refine lv_istore_n (lv' := [(0, .int v1)]) C.1 C.2.1 dJ6_bitCount_0f7a4_9 rfl hl (by decide) rfl (fun ls hl => ?_)
  refine lv_iload_n C.1 C.2.1 dJ6_bitCount_0f7a4_10 rfl (lv_at hl 0 rfl) ?_
  refine lv_ldcw (v := (858993459 : Int32)) C.1 C.2.1 C.2.2.2.2.1 (C.2.2.2.2.2.1 _ kc_RJ6_266) dJ6_bitCount_0f7a4_11 ?_
  refine lv_iand C.1 C.2.1 dJ6_bitCount_0f7a4_14 ?_
  refine lv_iload_n C.1 C.2.1 dJ6_bitCount_0f7a4_15 rfl (lv_at hl 0 rfl) ?_
  refine lv_iconst (v := (2 : Int32)) C.1 C.2.1 dJ6_bitCount_0f7a4_16 (by decide) ?_
  refine lv_iushr (v := (v1.toUInt32 >>> ((2 : Int32).toUInt32 &&& Int32.toUInt32 31)).toInt32) C.1 C.2.1 dJ6_bitCount_0f7a4_17 rfl ?_
  refine lv_ldcw (v := (858993459 : Int32)) C.1 C.2.1 C.2.2.2.2.1 (C.2.2.2.2.2.1 _ kc_RJ6_266) dJ6_bitCount_0f7a4_18 ?_
  refine lv_iand C.1 C.2.1 dJ6_bitCount_0f7a4_21 ?_
  refine lv_iadd C.1 C.2.1 dJ6_bitCount_0f7a4_22 ?_
  refine lv_topi (fun v2 e2 => ?_)
  replace h := le1_at e2 h
  refine lv_istore_n (lv' := [(0, .int v2)]) C.1 C.2.1 dJ6_bitCount_0f7a4_23 rfl hl (by decide) rfl (fun ls hl => ?_)
  refine lv_iload_n C.1 C.2.1 dJ6_bitCount_0f7a4_24 rfl (lv_at hl 0 rfl) ?_
  refine lv_iload_n C.1 C.2.1 dJ6_bitCount_0f7a4_25 rfl (lv_at hl 0 rfl) ?_
  refine lv_iconst (v := (4 : Int32)) C.1 C.2.1 dJ6_bitCount_0f7a4_26 (by decide) ?_
  refine lv_iushr (v := (v2.toUInt32 >>> ((4 : Int32).toUInt32 &&& Int32.toUInt32 31)).toInt32) C.1 C.2.1 dJ6_bitCount_0f7a4_27 rfl ?_
  refine lv_iadd C.1 C.2.1 dJ6_bitCount_0f7a4_28 ?_
  refine lv_ldcw (v := (252645135 : Int32)) C.1 C.2.1 C.2.2.2.2.1 (C.2.2.2.2.2.1 _ kc_RJ6_267) dJ6_bitCount_0f7a4_29 ?_
  refine lv_iand C.1 C.2.1 dJ6_bitCount_0f7a4_32 ?_
  refine lv_topi (fun v3 e3 => ?_)
  replace h := le1_at e3 h
  refine lv_istore_n (lv' := [(0, .int v3)]) C.1 C.2.1 dJ6_bitCount_0f7a4_33 rfl hl (by decide) rfl (fun ls hl => ?_)
  refine lv_iload_n C.1 C.2.1 dJ6_bitCount_0f7a4_34 rfl (lv_at hl 0 rfl) ?_
  refine lv_iload_n C.1 C.2.1 dJ6_bitCount_0f7a4_35 rfl (lv_at hl 0 rfl) ?_
  refine lv_bipush (v := (8 : Int32)) C.1 C.2.1 dJ6_bitCount_0f7a4_36 (by decide) ?_
  refine lv_iushr (v := (v3.toUInt32 >>> ((8 : Int32).toUInt32 &&& Int32.toUInt32 31)).toInt32) C.1 C.2.1 dJ6_bitCount_0f7a4_38 rfl ?_
  refine lv_iadd C.1 C.2.1 dJ6_bitCount_0f7a4_39 ?_
  refine lv_topi (fun v4 e4 => ?_)
  replace h := le1_at e4 h
  refine lv_istore_n (lv' := [(0, .int v4)]) C.1 C.2.1 dJ6_bitCount_0f7a4_40 rfl hl (by decide) rfl (fun ls hl => ?_)
  refine lv_iload_n C.1 C.2.1 dJ6_bitCount_0f7a4_41 rfl (lv_at hl 0 rfl) ?_
  refine lv_iload_n C.1 C.2.1 dJ6_bitCount_0f7a4_42 rfl (lv_at hl 0 rfl) ?_
  refine lv_bipush (v := (16 : Int32)) C.1 C.2.1 dJ6_bitCount_0f7a4_43 (by decide) ?_
  refine lv_iushr (v := (v4.toUInt32 >>> ((16 : Int32).toUInt32 &&& Int32.toUInt32 31)).toInt32) C.1 C.2.1 dJ6_bitCount_0f7a4_45 rfl ?_
  refine lv_iadd C.1 C.2.1 dJ6_bitCount_0f7a4_46 ?_
  refine lv_topi (fun v5 e5 => ?_)
  replace h := le1_at e5 h
  refine lv_istore_n (lv' := [(0, .int v5)]) C.1 C.2.1 dJ6_bitCount_0f7a4_47 rfl hl (by decide) rfl (fun ls hl => ?_)
  refine lv_iload_n C.1 C.2.1 dJ6_bitCount_0f7a4_48 rfl (lv_at hl 0 rfl) ?_
  refine lv_bipush (v := (63 : Int32)) C.1 C.2.1 dJ6_bitCount_0f7a4_49 (by decide) ?_
  refine lv_iand C.1 C.2.1 dJ6_bitCount_0f7a4_51 ?_
  exact ho_iret C hR h dJ6_bitCount_0f7a4_52
theorem dX8_isBetter_0 : decode cX8_isBetter 0 = .ok (.iload_n 2, 1) := by decide +kernel
theorem dX8_isBetter_1 : decode cX8_isBetter 1 = .ok (.aload_n 0, 1) := by decide +kernel
theorem dX8_isBetter_2 : decode cX8_isBetter 2 = .ok (.getfield 36, 3) := by decide +kernel
theorem dX8_isBetter_5 : decode cX8_isBetter 5 = .ok (.getfield 133, 3) := by decide +kernel
theorem dX8_isBetter_8 : decode cX8_isBetter 8 = .ok (.invokestatic 66, 3) := by decide +kernel
theorem dX8_isBetter_11 : decode cX8_isBetter 11 = .ok (.aload_n 0, 1) := by decide +kernel
theorem dX8_isBetter_12 : decode cX8_isBetter 12 = .ok (.getfield 22, 3) := by decide +kernel
theorem dX8_isBetter_15 : decode cX8_isBetter 15 = .ok (.aload_n 0, 1) := by decide +kernel
theorem dX8_isBetter_16 : decode cX8_isBetter 16 = .ok (.getfield 36, 3) := by decide +kernel
theorem dX8_isBetter_19 : decode cX8_isBetter 19 = .ok (.getfield 133, 3) := by decide +kernel
theorem dX8_isBetter_22 : decode cX8_isBetter 22 = .ok (.invokestatic 66, 3) := by decide +kernel
theorem dX8_isBetter_25 : decode cX8_isBetter 25 = .ok (.isub, 1) := by decide +kernel
theorem dX8_isBetter_26 : decode cX8_isBetter 26 = .ok (.istore 4, 2) := by decide +kernel
theorem dX8_isBetter_28 : decode cX8_isBetter 28 = .ok (.iload 4, 2) := by decide +kernel
theorem dX8_isBetter_30 : decode cX8_isBetter 30 = .ok (.ifCond .eq 14, 3) := by decide +kernel
theorem dX8_isBetter_33 : decode cX8_isBetter 33 = .ok (.iload 4, 2) := by decide +kernel
theorem dX8_isBetter_35 : decode cX8_isBetter 35 = .ok (.ifCond .le 7, 3) := by decide +kernel
theorem dX8_isBetter_38 : decode cX8_isBetter 38 = .ok (.iconst 1, 1) := by decide +kernel
theorem dX8_isBetter_39 : decode cX8_isBetter 39 = .ok (.goto 4, 3) := by decide +kernel
theorem dX8_isBetter_42 : decode cX8_isBetter 42 = .ok (.iconst 0, 1) := by decide +kernel
theorem dX8_isBetter_43 : decode cX8_isBetter 43 = .ok (.ireturn, 1) := by decide +kernel
theorem dX8_isBetter_44 : decode cX8_isBetter 44 = .ok (.iload_n 3, 1) := by decide +kernel
theorem dX8_isBetter_45 : decode cX8_isBetter 45 = .ok (.aload_n 0, 1) := by decide +kernel
theorem dX8_isBetter_46 : decode cX8_isBetter 46 = .ok (.getfield 25, 3) := by decide +kernel
theorem dX8_isBetter_49 : decode cX8_isBetter 49 = .ok (.if_icmp .eq 17, 3) := by decide +kernel
theorem dX8_isBetter_52 : decode cX8_isBetter 52 = .ok (.iload_n 3, 1) := by decide +kernel
theorem dX8_isBetter_53 : decode cX8_isBetter 53 = .ok (.aload_n 0, 1) := by decide +kernel
theorem dX8_isBetter_54 : decode cX8_isBetter 54 = .ok (.getfield 25, 3) := by decide +kernel
theorem dX8_isBetter_57 : decode cX8_isBetter 57 = .ok (.if_icmp .ge 7, 3) := by decide +kernel
theorem dX8_isBetter_60 : decode cX8_isBetter 60 = .ok (.iconst 1, 1) := by decide +kernel
theorem dX8_isBetter_61 : decode cX8_isBetter 61 = .ok (.goto 4, 3) := by decide +kernel
theorem dX8_isBetter_64 : decode cX8_isBetter 64 = .ok (.iconst 0, 1) := by decide +kernel
theorem dX8_isBetter_65 : decode cX8_isBetter 65 = .ok (.ireturn, 1) := by decide +kernel
theorem dX8_isBetter_66 : decode cX8_isBetter 66 = .ok (.iload_n 1, 1) := by decide +kernel
theorem dX8_isBetter_67 : decode cX8_isBetter 67 = .ok (.invokestatic 136, 3) := by decide +kernel
theorem dX8_isBetter_70 : decode cX8_isBetter 70 = .ok (.aload_n 0, 1) := by decide +kernel
theorem dX8_isBetter_71 : decode cX8_isBetter 71 = .ok (.getfield 18, 3) := by decide +kernel
theorem dX8_isBetter_74 : decode cX8_isBetter 74 = .ok (.invokestatic 136, 3) := by decide +kernel
theorem dX8_isBetter_77 : decode cX8_isBetter 77 = .ok (.if_icmp .ge 7, 3) := by decide +kernel
theorem dX8_isBetter_80 : decode cX8_isBetter 80 = .ok (.iconst 1, 1) := by decide +kernel
theorem dX8_isBetter_81 : decode cX8_isBetter 81 = .ok (.goto 4, 3) := by decide +kernel
theorem dX8_isBetter_84 : decode cX8_isBetter 84 = .ok (.iconst 0, 1) := by decide +kernel
theorem dX8_isBetter_85 : decode cX8_isBetter 85 = .ok (.ireturn, 1) := by decide +kernel
def f_X8_isBetter (x1 : Int32) (x2 : Int32) (x3 : Int32) (S : Hp) : Option (Int32 × Hp) :=
  ldP yH S 50 0 2 (fun p1 => ob2 (f_J9_min_7cf53 x2 (S.1 p1 0) S) (fun r2 S2 => ldP yH S2 50 0 2 (fun p3 => ob2 (f_J9_min_7cf53 (S2.1 50 4) (S2.1 p3 0) S2) (fun r4 S4 => le1 (r2 - r4) (fun v5 => if v5 = 0 then if x3 = (S4.1 50 5) then ob2 (f_J6_bitCount_0f7a4 x1 S4) (fun r6 S6 => ob2 (f_J6_bitCount_0f7a4 (S6.1 50 3) S6) (fun r7 S7 => if r7 ≤ r6 then some ((0 : Int32), S7) else some ((1 : Int32), S7))) else if (S4.1 50 5) ≤ x3 then some ((0 : Int32), S4) else some ((1 : Int32), S4) else if v5 ≤ 0 then some ((0 : Int32), S4) else some ((1 : Int32), S4))))))
set_option maxHeartbeats 4000000 in
set_option maxRecDepth 100000 in
theorem c_X8_isBetter (l : Launch) (E : Ev) (x1 : Int32) (x2 : Int32) (x3 : Int32) (S : Hp) (r : (Int32 × Hp)) (h : f_X8_isBetter x1 x2 x3 S = some r) : ho_M l yH E yX8_isBetter cX8_isBetter 5 (some .boolean) 1 [.ref (E.2.1 50), .int x1, .int x2, .int x3] S (some (.int r.1), r.2) := by
  refine ho_in (by decide) (Nat.le_of_ble_eq_true rfl) ?_
  intro p e s m args below meth c C hR ls hl
  have C : ho_I p s m args meth c RX8 cX8_isBetter 5 (some .boolean) := C
  have hl : lv_has ls 5 [(0, .ref (E.2.1 50)), (1, .int x1), (2, .int x2), (3, .int x3)] := hl
  unfold f_X8_isBetter at h
  refine lv_iload_n C.1 C.2.1 dX8_isBetter_0 rfl (lv_at hl 2 rfl) ?_
  refine lv_aload_n C.1 C.2.1 dX8_isBetter_1 rfl (lv_at hl 0 rfl) ?_
  obtain ⟨p1, e1, hp1, h⟩ := ldP_ok h
  refine hr_getP C cf8 fH_RX8_36 hR aH_50 e1 dX8_isBetter_2 ?_
  refine ho_getI C cf2 fH_RX8_133 hR hp1 dX8_isBetter_5 ?_
  obtain ⟨r2, S2, h2, h⟩ := ob2_ok h
  refine hr_Si (v := r2) (S' := S2) (As := [.int x2, .int (S.1 p1 0)]) (rest := []) C (c_J9_min_7cf53 l E x2 (S.1 p1 0) _ _ h2) ys_J9_min_7cf53 lk_RX8_66 rfl rfl hl.1 (Nat.le_of_ble_eq_true rfl) (by decide) (by decide) hR (ho_A hR) dX8_isBetter_8 (fun H locs hR => ?_)
  refine lv_aload_n C.1 C.2.1 dX8_isBetter_11 rfl (lv_at hl 0 rfl) ?_
  refine ho_getI C cf8 fH_RX8_22 hR aH_50 dX8_isBetter_12 ?_
  refine lv_aload_n C.1 C.2.1 dX8_isBetter_15 rfl (lv_at hl 0 rfl) ?_
  obtain ⟨p3, e3, hp3, h⟩ := ldP_ok h
  refine hr_getP C cf8 fH_RX8_36 hR aH_50 e3 dX8_isBetter_16 ?_
  refine ho_getI C cf2 fH_RX8_133 hR hp3 dX8_isBetter_19 ?_
  obtain ⟨r4, S4, h4, h⟩ := ob2_ok h
  refine hr_Si (v := r4) (S' := S4) (As := [.int (S2.1 50 4), .int (S2.1 p3 0)]) (rest := [.int r2]) C (c_J9_min_7cf53 l E (S2.1 50 4) (S2.1 p3 0) _ _ h4) ys_J9_min_7cf53 lk_RX8_66 rfl rfl hl.1 (Nat.le_of_ble_eq_true rfl) (by decide) (by decide) hR (ho_A hR) dX8_isBetter_22 (fun H locs hR => ?_)
  refine lv_isub C.1 C.2.1 dX8_isBetter_25 ?_
  refine lv_topi (fun v5 e5 => ?_)
  replace h := le1_at e5 h
  refine lv_istore (lv' := [(4, .int v5), (0, .ref (E.2.1 50)), (1, .int x1), (2, .int x2), (3, .int x3)]) C.1 C.2.1 dX8_isBetter_26 hl (by decide) rfl (fun ls hl => ?_)
  refine lv_iload C.1 C.2.1 dX8_isBetter_28 (lv_at hl 0 rfl) ?_
  refine lv_if_eq (tgt := 44) C.1 C.2.1 dX8_isBetter_30 (by decide) (fun hc => ?_) (fun hc => ?_)
  · replace h := if_t h hc
    refine lv_iload_n C.1 C.2.1 dX8_isBetter_44 rfl (lv_at hl 4 rfl) ?_
    refine lv_aload_n C.1 C.2.1 dX8_isBetter_45 rfl (lv_at hl 1 rfl) ?_
    refine ho_getI C cf8 fH_RX8_25 hR aH_50 dX8_isBetter_46 ?_
    refine lv_icmp_eq (tgt := 66) C.1 C.2.1 dX8_isBetter_49 (by decide) (fun hc => ?_) (fun hc => ?_)
    · replace h := if_t h hc
      refine lv_iload_n C.1 C.2.1 dX8_isBetter_66 rfl (lv_at hl 2 rfl) ?_
      obtain ⟨r6, S6, h6, h⟩ := ob2_ok h
      refine hr_Si (v := r6) (S' := S6) (As := [.int x1]) (rest := []) C (c_J6_bitCount_0f7a4 l E x1 _ _ h6) ys_J6_bitCount_0f7a4 lk_RX8_136 rfl rfl hl.1 (Nat.le_of_ble_eq_true rfl) (by decide) (by decide) hR (ho_A hR) dX8_isBetter_67 (fun H locs hR => ?_)
      refine lv_aload_n C.1 C.2.1 dX8_isBetter_70 rfl (lv_at hl 1 rfl) ?_
      refine ho_getI C cf8 fH_RX8_18 hR aH_50 dX8_isBetter_71 ?_
      obtain ⟨r7, S7, h7, h⟩ := ob2_ok h
      refine hr_Si (v := r7) (S' := S7) (As := [.int (S6.1 50 3)]) (rest := [.int r6]) C (c_J6_bitCount_0f7a4 l E (S6.1 50 3) _ _ h7) ys_J6_bitCount_0f7a4 lk_RX8_136 rfl rfl hl.1 (Nat.le_of_ble_eq_true rfl) (by decide) (by decide) hR (ho_A hR) dX8_isBetter_74 (fun H locs hR => ?_)
      refine lv_icmp_ge (tgt := 84) C.1 C.2.1 dX8_isBetter_77 (by decide) (fun hc => ?_) (fun hc => ?_)
      · replace h := if_t h hc
        refine lv_iconst (v := (0 : Int32)) C.1 C.2.1 dX8_isBetter_84 (by decide) ?_
        exact ho_zret C hR (Or.inl rfl) h dX8_isBetter_85
      · replace h := if_f h hc
        refine lv_iconst (v := (1 : Int32)) C.1 C.2.1 dX8_isBetter_80 (by decide) ?_
        refine lv_goto (tgt := 85) C.1 C.2.1 dX8_isBetter_81 (by decide) ?_
        exact ho_zret C hR (Or.inr rfl) h dX8_isBetter_85
    · replace h := if_f h hc
      refine lv_iload_n C.1 C.2.1 dX8_isBetter_52 rfl (lv_at hl 4 rfl) ?_
      refine lv_aload_n C.1 C.2.1 dX8_isBetter_53 rfl (lv_at hl 1 rfl) ?_
      refine ho_getI C cf8 fH_RX8_25 hR aH_50 dX8_isBetter_54 ?_
      refine lv_icmp_ge (tgt := 64) C.1 C.2.1 dX8_isBetter_57 (by decide) (fun hc => ?_) (fun hc => ?_)
      · replace h := if_t h hc
        refine lv_iconst (v := (0 : Int32)) C.1 C.2.1 dX8_isBetter_64 (by decide) ?_
        exact ho_zret C hR (Or.inl rfl) h dX8_isBetter_65
      · replace h := if_f h hc
        refine lv_iconst (v := (1 : Int32)) C.1 C.2.1 dX8_isBetter_60 (by decide) ?_
        refine lv_goto (tgt := 65) C.1 C.2.1 dX8_isBetter_61 (by decide) ?_
        exact ho_zret C hR (Or.inr rfl) h dX8_isBetter_65
  · replace h := if_f h hc
    refine lv_iload C.1 C.2.1 dX8_isBetter_33 (lv_at hl 0 rfl) ?_
    refine lv_if_le (tgt := 42) C.1 C.2.1 dX8_isBetter_35 (by decide) (fun hc => ?_) (fun hc => ?_)
    · replace h := if_t h hc
      refine lv_iconst (v := (0 : Int32)) C.1 C.2.1 dX8_isBetter_42 (by decide) ?_
      exact ho_zret C hR (Or.inl rfl) h dX8_isBetter_43
    · replace h := if_f h hc
      refine lv_iconst (v := (1 : Int32)) C.1 C.2.1 dX8_isBetter_38 (by decide) ?_
      refine lv_goto (tgt := 43) C.1 C.2.1 dX8_isBetter_39 (by decide) ?_
      exact ho_zret C hR (Or.inr rfl) h dX8_isBetter_43
theorem dX8_choose_0 : decode cX8_choose 0 = .ok (.aload_n 0, 1) := by decide +kernel
theorem dX8_choose_1 : decode cX8_choose 1 = .ok (.aload_n 1, 1) := by decide +kernel
theorem dX8_choose_2 : decode cX8_choose 2 = .ok (.invokevirtual 85, 3) := by decide +kernel
theorem dX8_choose_5 : decode cX8_choose 5 = .ok (.istore_n 2, 1) := by decide +kernel
theorem dX8_choose_6 : decode cX8_choose 6 = .ok (.aload_n 0, 1) := by decide +kernel
theorem dX8_choose_7 : decode cX8_choose 7 = .ok (.iconst 0, 1) := by decide +kernel
theorem dX8_choose_8 : decode cX8_choose 8 = .ok (.putfield 18, 3) := by decide +kernel
theorem dX8_choose_11 : decode cX8_choose 11 = .ok (.aload_n 0, 1) := by decide +kernel
theorem dX8_choose_12 : decode cX8_choose 12 = .ok (.iconst 0, 1) := by decide +kernel
theorem dX8_choose_13 : decode cX8_choose 13 = .ok (.putfield 22, 3) := by decide +kernel
theorem dX8_choose_16 : decode cX8_choose 16 = .ok (.aload_n 0, 1) := by decide +kernel
theorem dX8_choose_17 : decode cX8_choose 17 = .ok (.iconst 0, 1) := by decide +kernel
theorem dX8_choose_18 : decode cX8_choose 18 = .ok (.putfield 25, 3) := by decide +kernel
theorem dX8_choose_21 : decode cX8_choose 21 = .ok (.iconst 1, 1) := by decide +kernel
theorem dX8_choose_22 : decode cX8_choose 22 = .ok (.istore_n 3, 1) := by decide +kernel
theorem dX8_choose_23 : decode cX8_choose 23 = .ok (.iload_n 3, 1) := by decide +kernel
theorem dX8_choose_24 : decode cX8_choose 24 = .ok (.iload_n 2, 1) := by decide +kernel
theorem dX8_choose_25 : decode cX8_choose 25 = .ok (.if_icmp .gt 61, 3) := by decide +kernel
theorem dX8_choose_28 : decode cX8_choose 28 = .ok (.iload_n 3, 1) := by decide +kernel
theorem dX8_choose_29 : decode cX8_choose 29 = .ok (.iload_n 2, 1) := by decide +kernel
theorem dX8_choose_30 : decode cX8_choose 30 = .ok (.iconst (-1), 1) := by decide +kernel
theorem dX8_choose_31 : decode cX8_choose 31 = .ok (.ixor, 1) := by decide +kernel
theorem dX8_choose_32 : decode cX8_choose 32 = .ok (.iand, 1) := by decide +kernel
theorem dX8_choose_33 : decode cX8_choose 33 = .ok (.ifCond .ne 47, 3) := by decide +kernel
theorem dX8_choose_36 : decode cX8_choose 36 = .ok (.aload_n 0, 1) := by decide +kernel
theorem dX8_choose_37 : decode cX8_choose 37 = .ok (.aload_n 1, 1) := by decide +kernel
theorem dX8_choose_38 : decode cX8_choose 38 = .ok (.iload_n 3, 1) := by decide +kernel
theorem dX8_choose_39 : decode cX8_choose 39 = .ok (.invokevirtual 121, 3) := by decide +kernel
theorem dX8_choose_42 : decode cX8_choose 42 = .ok (.istore 4, 2) := by decide +kernel
theorem dX8_choose_44 : decode cX8_choose 44 = .ok (.aload_n 0, 1) := by decide +kernel
theorem dX8_choose_45 : decode cX8_choose 45 = .ok (.iload_n 3, 1) := by decide +kernel
theorem dX8_choose_46 : decode cX8_choose 46 = .ok (.invokevirtual 125, 3) := by decide +kernel
theorem dX8_choose_49 : decode cX8_choose 49 = .ok (.istore 5, 2) := by decide +kernel
theorem dX8_choose_51 : decode cX8_choose 51 = .ok (.aload_n 0, 1) := by decide +kernel
theorem dX8_choose_52 : decode cX8_choose 52 = .ok (.iload_n 3, 1) := by decide +kernel
theorem dX8_choose_53 : decode cX8_choose 53 = .ok (.iload 4, 2) := by decide +kernel
theorem dX8_choose_55 : decode cX8_choose 55 = .ok (.iload 5, 2) := by decide +kernel
theorem dX8_choose_57 : decode cX8_choose 57 = .ok (.invokevirtual 129, 3) := by decide +kernel
theorem dX8_choose_60 : decode cX8_choose 60 = .ok (.ifCond .eq 20, 3) := by decide +kernel
theorem dX8_choose_63 : decode cX8_choose 63 = .ok (.aload_n 0, 1) := by decide +kernel
theorem dX8_choose_64 : decode cX8_choose 64 = .ok (.iload_n 3, 1) := by decide +kernel
theorem dX8_choose_65 : decode cX8_choose 65 = .ok (.putfield 18, 3) := by decide +kernel
theorem dX8_choose_68 : decode cX8_choose 68 = .ok (.aload_n 0, 1) := by decide +kernel
theorem dX8_choose_69 : decode cX8_choose 69 = .ok (.iload 4, 2) := by decide +kernel
theorem dX8_choose_71 : decode cX8_choose 71 = .ok (.putfield 22, 3) := by decide +kernel
theorem dX8_choose_74 : decode cX8_choose 74 = .ok (.aload_n 0, 1) := by decide +kernel
theorem dX8_choose_75 : decode cX8_choose 75 = .ok (.iload 5, 2) := by decide +kernel
theorem dX8_choose_77 : decode cX8_choose 77 = .ok (.putfield 25, 3) := by decide +kernel
theorem dX8_choose_80 : decode cX8_choose 80 = .ok (.iinc 3 1, 3) := by decide +kernel
theorem dX8_choose_83 : decode cX8_choose 83 = .ok (.goto (-60), 3) := by decide +kernel
theorem dX8_choose_86 : decode cX8_choose 86 = .ok (.return_, 1) := by decide +kernel
def f_X8_choose_80 (K23 : Int32 → Int32 → Hp → Option Hp) (a1 : Nat) (x2 : Int32) (x3 : Int32) (S : Hp) : Option Hp :=
  le1 (x3 + (1 : Int32)) (fun v1 => K23 x2 v1 S)
set_option maxHeartbeats 4000000 in
set_option maxRecDepth 100000 in
theorem w_X8_choose_80 {p : Program} {l : Launch} {e : Env} {s : State} {m : MethodId} {args : Array Value} {below : List Frame} {meth : Method} {c : Code} {E : Ev} {S0 : Hp} {r : Hp} (C : ho_I p s m args meth c RX8 cX8_choose 6 none) (K23 : Int32 → Int32 → Hp → Option Hp) (a1 : Nat) (ha1 : a1 ∈ yH.1 ∧ yH.2.1 a1 = (1, 9)) (hK23 : ∀ (y2 : Int32) (y3 : Int32) (S : Hp), K23 y2 y3 S = some r → ho_G p l e s m args below meth c yH E S0 2 6 (none, r) 23 [(0, .ref (E.2.1 50)), (1, .ref (E.2.1 a1)), (2, .int y2), (3, .int y3)] [] S) :
    ∀ (x2 : Int32) (x3 : Int32) (S : Hp), f_X8_choose_80 K23 a1 x2 x3 S = some r → ho_G p l e s m args below meth c yH E S0 2 6 (none, r) 80 [(0, .ref (E.2.1 50)), (1, .ref (E.2.1 a1)), (2, .int x2), (3, .int x3)] [] S := by
  intro x2 x3 S h H locs ls hR hl
  unfold f_X8_choose_80 at h
  obtain ⟨v1, e1, h⟩ := le1_ok h
  refine lv_iinc (v := v1) (lv' := [(3, .int v1), (0, .ref (E.2.1 50)), (1, .ref (E.2.1 a1)), (2, .int x2)]) C.1 C.2.1 dX8_choose_80 hl (k := 3) rfl (by rw [e1]; rfl) (by decide) rfl (fun ls hl => ?_)
  refine lv_goto (tgt := 23) C.1 C.2.1 dX8_choose_83 (by decide) ?_
  exact hK23 x2 v1 S h _ _ _ hR (lv_sub hl [1, 2, 3, 0] rfl)
def f_X8_choose_23 (a1 : Nat) : Nat → Int32 → Int32 → Hp → Option Hp
  | 0, _, _, _ => none
  | k + 1, x2, x3, S => if x2 < x3 then some S else if (x3 &&& (x2 ^^^ (-1 : Int32))) = 0 then ob2 (f_X8_takeAll a1 x3 S) (fun r1 S1 => ob2 (f_X8_sightOfShow x3 S1) (fun r2 S2 => ob2 (f_X8_isBetter x3 r1 r2 S2) (fun r3 S3 => if r3 = 0 then f_X8_choose_80 (f_X8_choose_23 a1 k) a1 x2 x3 S3 else le1 (ho_sI S3 50 3 x3) (fun S4 => le1 (ho_sI S4 50 4 r1) (fun S5 => le1 (ho_sI S5 50 5 r2) (fun S6 => f_X8_choose_80 (f_X8_choose_23 a1 k) a1 x2 x3 S6)))))) else f_X8_choose_80 (f_X8_choose_23 a1 k) a1 x2 x3 S
set_option maxHeartbeats 4000000 in
set_option maxRecDepth 100000 in
theorem w_X8_choose_23 {p : Program} {l : Launch} {e : Env} {s : State} {m : MethodId} {args : Array Value} {below : List Frame} {meth : Method} {c : Code} {E : Ev} {S0 : Hp} {r : Hp} (C : ho_I p s m args meth c RX8 cX8_choose 6 none) (a1 : Nat) (ha1 : a1 ∈ yH.1 ∧ yH.2.1 a1 = (1, 9)) :
    ∀ (k : Nat) (x2 : Int32) (x3 : Int32) (S : Hp), f_X8_choose_23 a1 k x2 x3 S = some r → ho_G p l e s m args below meth c yH E S0 2 6 (none, r) 23 [(0, .ref (E.2.1 50)), (1, .ref (E.2.1 a1)), (2, .int x2), (3, .int x3)] [] S := by
  intro k
  induction k with
  | zero =>
    intro x2 x3 S h
    exact absurd (show (none : Option Hp) = some r from h) (by simp)
  | succ k ih =>
    intro x2 x3 S h H locs ls hR hl
    rw [f_X8_choose_23] at h
    refine lv_iload_n C.1 C.2.1 dX8_choose_23 rfl (lv_at hl 3 rfl) ?_
    refine lv_iload_n C.1 C.2.1 dX8_choose_24 rfl (lv_at hl 2 rfl) ?_
    refine lv_icmp_gt (tgt := 86) C.1 C.2.1 dX8_choose_25 (by decide) (fun hc => ?_) (fun hc => ?_)
    · replace h := if_t h hc
      exact ho_vret C hR h dX8_choose_86
    · replace h := if_f h hc
      refine lv_iload_n C.1 C.2.1 dX8_choose_28 rfl (lv_at hl 3 rfl) ?_
      refine lv_iload_n C.1 C.2.1 dX8_choose_29 rfl (lv_at hl 2 rfl) ?_
      refine lv_iconst (v := (-1 : Int32)) C.1 C.2.1 dX8_choose_30 (by decide) ?_
      refine lv_ixor C.1 C.2.1 dX8_choose_31 ?_
      refine lv_iand C.1 C.2.1 dX8_choose_32 ?_
      refine lv_if_ne (tgt := 80) C.1 C.2.1 dX8_choose_33 (by decide) (fun hc => ?_) (fun hc => ?_)
      · replace h := if_f h hc
        exact w_X8_choose_80 C (f_X8_choose_23 a1 k) a1 ha1 ih x2 x3 S h _ _ _ hR (lv_sub hl [0, 1, 2, 3] rfl)
      · replace h := if_t h hc
        refine lv_aload_n C.1 C.2.1 dX8_choose_36 rfl (lv_at hl 0 rfl) ?_
        refine lv_aload_n C.1 C.2.1 dX8_choose_37 rfl (lv_at hl 1 rfl) ?_
        refine lv_iload_n C.1 C.2.1 dX8_choose_38 rfl (lv_at hl 3 rfl) ?_
        obtain ⟨r1, S1, h1, h⟩ := ob2_ok h
        refine hr_Vi (v := r1) (S' := S1) (As := [.ref (E.2.1 a1), .int x3]) (rest := []) C cf8 (c_X8_takeAll l E a1 x3 ha1 _ _ h1) yv_X8_takeAll lk_RX8_121 rfl aH_50 rfl rfl hl.1 (Nat.le_of_ble_eq_true rfl) (by decide) (by decide) hR (ho_A hR) dX8_choose_39 (fun H locs hR => ?_)
        refine lv_istore (lv' := [(4, .int r1), (0, .ref (E.2.1 50)), (1, .ref (E.2.1 a1)), (2, .int x2), (3, .int x3)]) C.1 C.2.1 dX8_choose_42 hl (by decide) rfl (fun ls hl => ?_)
        refine lv_aload_n C.1 C.2.1 dX8_choose_44 rfl (lv_at hl 1 rfl) ?_
        refine lv_iload_n C.1 C.2.1 dX8_choose_45 rfl (lv_at hl 4 rfl) ?_
        obtain ⟨r2, S2, h2, h⟩ := ob2_ok h
        refine hr_Vi (v := r2) (S' := S2) (As := [.int x3]) (rest := []) C cf8 (c_X8_sightOfShow l E x3 _ _ h2) yv_X8_sightOfShow lk_RX8_125 rfl aH_50 rfl rfl hl.1 (Nat.le_of_ble_eq_true rfl) (by decide) (by decide) hR (ho_A hR) dX8_choose_46 (fun H locs hR => ?_)
        refine lv_istore (lv' := [(5, .int r2), (4, .int r1), (0, .ref (E.2.1 50)), (1, .ref (E.2.1 a1)), (2, .int x2), (3, .int x3)]) C.1 C.2.1 dX8_choose_49 hl (by decide) rfl (fun ls hl => ?_)
        refine lv_aload_n C.1 C.2.1 dX8_choose_51 rfl (lv_at hl 2 rfl) ?_
        refine lv_iload_n C.1 C.2.1 dX8_choose_52 rfl (lv_at hl 5 rfl) ?_
        refine lv_iload C.1 C.2.1 dX8_choose_53 (lv_at hl 1 rfl) ?_
        refine lv_iload C.1 C.2.1 dX8_choose_55 (lv_at hl 0 rfl) ?_
        obtain ⟨r3, S3, h3, h⟩ := ob2_ok h
        refine hr_Vi (v := r3) (S' := S3) (As := [.int x3, .int r1, .int r2]) (rest := []) C cf8 (c_X8_isBetter l E x3 r1 r2 _ _ h3) yv_X8_isBetter lk_RX8_129 rfl aH_50 rfl rfl hl.1 (Nat.le_of_ble_eq_true rfl) (by decide) (by decide) hR (ho_A hR) dX8_choose_57 (fun H locs hR => ?_)
        refine lv_if_eq (tgt := 80) C.1 C.2.1 dX8_choose_60 (by decide) (fun hc => ?_) (fun hc => ?_)
        · replace h := if_t h hc
          exact w_X8_choose_80 C (f_X8_choose_23 a1 k) a1 ha1 ih x2 x3 S3 h _ _ _ hR (lv_sub hl [2, 3, 4, 5] rfl)
        · replace h := if_f h hc
          refine lv_aload_n C.1 C.2.1 dX8_choose_63 rfl (lv_at hl 2 rfl) ?_
          refine lv_iload_n C.1 C.2.1 dX8_choose_64 rfl (lv_at hl 5 rfl) ?_
          obtain ⟨S4, e4, h⟩ := le1_ok h
          refine hr_putI C cf8 fH_RX8_18 hR aH_50 e4 dX8_choose_65 (fun H locs hR => ?_)
          refine lv_aload_n C.1 C.2.1 dX8_choose_68 rfl (lv_at hl 2 rfl) ?_
          refine lv_iload C.1 C.2.1 dX8_choose_69 (lv_at hl 1 rfl) ?_
          obtain ⟨S5, e5, h⟩ := le1_ok h
          refine hr_putI C cf8 fH_RX8_22 hR aH_50 e5 dX8_choose_71 (fun H locs hR => ?_)
          refine lv_aload_n C.1 C.2.1 dX8_choose_74 rfl (lv_at hl 2 rfl) ?_
          refine lv_iload C.1 C.2.1 dX8_choose_75 (lv_at hl 0 rfl) ?_
          obtain ⟨S6, e6, h⟩ := le1_ok h
          refine hr_putI C cf8 fH_RX8_25 hR aH_50 e6 dX8_choose_77 (fun H locs hR => ?_)
          exact w_X8_choose_80 C (f_X8_choose_23 a1 k) a1 ha1 ih x2 x3 S6 h _ _ _ hR (lv_sub hl [2, 3, 4, 5] rfl)
def f_X8_choose (a1 : Nat) (S : Hp) : Option Hp :=
  ob2 (f_X8_showable a1 S) (fun r1 S1 => le1 (ho_sI S1 50 3 (0 : Int32)) (fun S2 => le1 (ho_sI S2 50 4 (0 : Int32)) (fun S3 => le1 (ho_sI S3 50 5 (0 : Int32)) (fun S4 => f_X8_choose_23 a1 5000 r1 (1 : Int32) S4))))
set_option maxHeartbeats 4000000 in
set_option maxRecDepth 100000 in
theorem c_X8_choose (l : Launch) (E : Ev) (a1 : Nat) (ha1 : a1 ∈ yH.1 ∧ yH.2.1 a1 = (1, 9)) (S : Hp) (r : Hp) (h : f_X8_choose a1 S = some r) : ho_M l yH E yX8_choose cX8_choose 6 none 2 [.ref (E.2.1 50), .ref (E.2.1 a1)] S (none, r) := by
  refine ho_in (by decide) (Nat.le_of_ble_eq_true rfl) ?_
  intro p e s m args below meth c C hR ls hl
  have C : ho_I p s m args meth c RX8 cX8_choose 6 none := C
  have hl : lv_has ls 6 [(0, .ref (E.2.1 50)), (1, .ref (E.2.1 a1))] := hl
  unfold f_X8_choose at h
  refine lv_aload_n C.1 C.2.1 dX8_choose_0 rfl (lv_at hl 0 rfl) ?_
  refine lv_aload_n C.1 C.2.1 dX8_choose_1 rfl (lv_at hl 1 rfl) ?_
  obtain ⟨r1, S1, h1, h⟩ := ob2_ok h
  refine hr_Vi (v := r1) (S' := S1) (As := [.ref (E.2.1 a1)]) (rest := []) C cf8 (c_X8_showable l E a1 ha1 _ _ h1) yv_X8_showable lk_RX8_85 rfl aH_50 rfl rfl hl.1 (Nat.le_of_ble_eq_true rfl) (by decide) (by decide) hR (ho_A hR) dX8_choose_2 (fun H locs hR => ?_)
  refine lv_istore_n (lv' := [(2, .int r1), (0, .ref (E.2.1 50)), (1, .ref (E.2.1 a1))]) C.1 C.2.1 dX8_choose_5 rfl hl (by decide) rfl (fun ls hl => ?_)
  refine lv_aload_n C.1 C.2.1 dX8_choose_6 rfl (lv_at hl 1 rfl) ?_
  refine lv_iconst (v := (0 : Int32)) C.1 C.2.1 dX8_choose_7 (by decide) ?_
  obtain ⟨S2, e2, h⟩ := le1_ok h
  refine hr_putI C cf8 fH_RX8_18 hR aH_50 e2 dX8_choose_8 (fun H locs hR => ?_)
  refine lv_aload_n C.1 C.2.1 dX8_choose_11 rfl (lv_at hl 1 rfl) ?_
  refine lv_iconst (v := (0 : Int32)) C.1 C.2.1 dX8_choose_12 (by decide) ?_
  obtain ⟨S3, e3, h⟩ := le1_ok h
  refine hr_putI C cf8 fH_RX8_22 hR aH_50 e3 dX8_choose_13 (fun H locs hR => ?_)
  refine lv_aload_n C.1 C.2.1 dX8_choose_16 rfl (lv_at hl 1 rfl) ?_
  refine lv_iconst (v := (0 : Int32)) C.1 C.2.1 dX8_choose_17 (by decide) ?_
  obtain ⟨S4, e4, h⟩ := le1_ok h
  refine hr_putI C cf8 fH_RX8_25 hR aH_50 e4 dX8_choose_18 (fun H locs hR => ?_)
  refine lv_iconst (v := (1 : Int32)) C.1 C.2.1 dX8_choose_21 (by decide) ?_
  refine lv_istore_n (lv' := [(3, .int (1 : Int32)), (2, .int r1), (0, .ref (E.2.1 50)), (1, .ref (E.2.1 a1))]) C.1 C.2.1 dX8_choose_22 rfl hl (by decide) rfl (fun ls hl => ?_)
  exact w_X8_choose_23 C a1 ha1 5000 r1 (1 : Int32) S4 h _ _ _ hR (lv_sub hl [2, 3, 1, 0] rfl)
theorem dX9_keep_0 : decode cX9_keep 0 = .ok (.aload_n 0, 1) := by decide +kernel
theorem dX9_keep_1 : decode cX9_keep 1 = .ok (.getfield 34, 3) := by decide +kernel
theorem dX9_keep_4 : decode cX9_keep 4 = .ok (.bipush 30, 2) := by decide +kernel
theorem dX9_keep_6 : decode cX9_keep 6 = .ok (.if_icmp .ne 32, 3) := by decide +kernel
theorem dX9_keep_9 : decode cX9_keep 9 = .ok (.aload_n 0, 1) := by decide +kernel
theorem dX9_keep_10 : decode cX9_keep 10 = .ok (.dup, 1) := by decide +kernel
theorem dX9_keep_11 : decode cX9_keep 11 = .ok (.getfield 34, 3) := by decide +kernel
theorem dX9_keep_14 : decode cX9_keep 14 = .ok (.iconst 1, 1) := by decide +kernel
theorem dX9_keep_15 : decode cX9_keep 15 = .ok (.isub, 1) := by decide +kernel
theorem dX9_keep_16 : decode cX9_keep 16 = .ok (.putfield 34, 3) := by decide +kernel
theorem dX9_keep_19 : decode cX9_keep 19 = .ok (.aload_n 0, 1) := by decide +kernel
theorem dX9_keep_20 : decode cX9_keep 20 = .ok (.getfield 37, 3) := by decide +kernel
theorem dX9_keep_23 : decode cX9_keep 23 = .ok (.iconst 3, 1) := by decide +kernel
theorem dX9_keep_24 : decode cX9_keep 24 = .ok (.aload_n 0, 1) := by decide +kernel
theorem dX9_keep_25 : decode cX9_keep 25 = .ok (.getfield 37, 3) := by decide +kernel
theorem dX9_keep_28 : decode cX9_keep 28 = .ok (.iconst 0, 1) := by decide +kernel
theorem dX9_keep_29 : decode cX9_keep 29 = .ok (.aload_n 0, 1) := by decide +kernel
theorem dX9_keep_30 : decode cX9_keep 30 = .ok (.getfield 34, 3) := by decide +kernel
theorem dX9_keep_33 : decode cX9_keep 33 = .ok (.iconst 3, 1) := by decide +kernel
theorem dX9_keep_34 : decode cX9_keep 34 = .ok (.imul, 1) := by decide +kernel
theorem dX9_keep_35 : decode cX9_keep 35 = .ok (.invokestatic 56, 3) := by decide +kernel
theorem dX9_keep_38 : decode cX9_keep 38 = .ok (.aload_n 0, 1) := by decide +kernel
theorem dX9_keep_39 : decode cX9_keep 39 = .ok (.getfield 34, 3) := by decide +kernel
theorem dX9_keep_42 : decode cX9_keep 42 = .ok (.iconst 3, 1) := by decide +kernel
theorem dX9_keep_43 : decode cX9_keep 43 = .ok (.imul, 1) := by decide +kernel
theorem dX9_keep_44 : decode cX9_keep 44 = .ok (.istore_n 2, 1) := by decide +kernel
theorem dX9_keep_45 : decode cX9_keep 45 = .ok (.aload_n 0, 1) := by decide +kernel
theorem dX9_keep_46 : decode cX9_keep 46 = .ok (.getfield 37, 3) := by decide +kernel
theorem dX9_keep_49 : decode cX9_keep 49 = .ok (.iload_n 2, 1) := by decide +kernel
theorem dX9_keep_50 : decode cX9_keep 50 = .ok (.aload_n 0, 1) := by decide +kernel
theorem dX9_keep_51 : decode cX9_keep 51 = .ok (.getfield 9, 3) := by decide +kernel
theorem dX9_keep_54 : decode cX9_keep 54 = .ok (.iastore, 1) := by decide +kernel
theorem dX9_keep_55 : decode cX9_keep 55 = .ok (.aload_n 0, 1) := by decide +kernel
theorem dX9_keep_56 : decode cX9_keep 56 = .ok (.getfield 37, 3) := by decide +kernel
theorem dX9_keep_59 : decode cX9_keep 59 = .ok (.iload_n 2, 1) := by decide +kernel
theorem dX9_keep_60 : decode cX9_keep 60 = .ok (.iconst 1, 1) := by decide +kernel
theorem dX9_keep_61 : decode cX9_keep 61 = .ok (.iadd, 1) := by decide +kernel
theorem dX9_keep_62 : decode cX9_keep 62 = .ok (.iload_n 1, 1) := by decide +kernel
theorem dX9_keep_63 : decode cX9_keep 63 = .ok (.iastore, 1) := by decide +kernel
theorem dX9_keep_64 : decode cX9_keep 64 = .ok (.aload_n 0, 1) := by decide +kernel
theorem dX9_keep_65 : decode cX9_keep 65 = .ok (.getfield 37, 3) := by decide +kernel
theorem dX9_keep_68 : decode cX9_keep 68 = .ok (.iload_n 2, 1) := by decide +kernel
theorem dX9_keep_69 : decode cX9_keep 69 = .ok (.iconst 2, 1) := by decide +kernel
theorem dX9_keep_70 : decode cX9_keep 70 = .ok (.iadd, 1) := by decide +kernel
theorem dX9_keep_71 : decode cX9_keep 71 = .ok (.aload_n 0, 1) := by decide +kernel
theorem dX9_keep_72 : decode cX9_keep 72 = .ok (.getfield 18, 3) := by decide +kernel
theorem dX9_keep_75 : decode cX9_keep 75 = .ok (.iastore, 1) := by decide +kernel
theorem dX9_keep_76 : decode cX9_keep 76 = .ok (.aload_n 0, 1) := by decide +kernel
theorem dX9_keep_77 : decode cX9_keep 77 = .ok (.dup, 1) := by decide +kernel
theorem dX9_keep_78 : decode cX9_keep 78 = .ok (.getfield 34, 3) := by decide +kernel
theorem dX9_keep_81 : decode cX9_keep 81 = .ok (.iconst 1, 1) := by decide +kernel
theorem dX9_keep_82 : decode cX9_keep 82 = .ok (.iadd, 1) := by decide +kernel
theorem dX9_keep_83 : decode cX9_keep 83 = .ok (.putfield 34, 3) := by decide +kernel
theorem dX9_keep_86 : decode cX9_keep 86 = .ok (.return_, 1) := by decide +kernel
def f_X9_keep_38 (a0 : Nat) (x1 : Int32) (S : Hp) : Option Hp :=
  le1 ((S.1 a0 7) * (3 : Int32)) (fun v1 => stI S (a0 + 5) 90 v1 (S.1 a0 0) (fun S2 => stI S2 (a0 + 5) 90 (v1 + (1 : Int32)) x1 (fun S3 => stI S3 (a0 + 5) 90 (v1 + (2 : Int32)) (S3.1 a0 2) (fun S4 => le1 (ho_sI S4 a0 7 ((S4.1 a0 7) + (1 : Int32))) (fun S5 => some S5)))))
set_option maxHeartbeats 4000000 in
set_option maxRecDepth 100000 in
theorem w_X9_keep_38 {p : Program} {l : Launch} {e : Env} {s : State} {m : MethodId} {args : Array Value} {below : List Frame} {meth : Method} {c : Code} {E : Ev} {S0 : Hp} {r : Hp} (C : ho_I p s m args meth c RX9 cX9_keep 3 none) (a0 : Nat) (ha0 : a0 ∈ yH.1 ∧ yH.2.1 a0 = (1, 9)) :
    ∀ (x1 : Int32) (S : Hp), f_X9_keep_38 a0 x1 S = some r → ho_G p l e s m args below meth c yH E S0 1 3 (none, r) 38 [(0, .ref (E.2.1 a0)), (1, .int x1)] [] S := by
  intro x1 S h H locs ls hR hl
  unfold f_X9_keep_38 at h
  refine lv_aload_n C.1 C.2.1 dX9_keep_38 rfl (lv_at hl 0 rfl) ?_
  refine ho_getI C cf9 fH_RX9_34 hR ha0 dX9_keep_39 ?_
  refine lv_iconst (v := (3 : Int32)) C.1 C.2.1 dX9_keep_42 (by decide) ?_
  refine lv_imul C.1 C.2.1 dX9_keep_43 ?_
  refine lv_topi (fun v1 e1 => ?_)
  replace h := le1_at e1 h
  refine lv_istore_n (lv' := [(2, .int v1), (0, .ref (E.2.1 a0)), (1, .int x1)]) C.1 C.2.1 dX9_keep_44 rfl hl (by decide) rfl (fun ls hl => ?_)
  refine lv_aload_n C.1 C.2.1 dX9_keep_45 rfl (lv_at hl 1 rfl) ?_
  refine ho_getR (a' := (a0 + 5)) C cf9 fH_RX9_37 hR ha0 (pH_9_8 ha0.2) dX9_keep_46 ?_
  refine lv_iload_n C.1 C.2.1 dX9_keep_49 rfl (lv_at hl 0 rfl) ?_
  refine lv_aload_n C.1 C.2.1 dX9_keep_50 rfl (lv_at hl 1 rfl) ?_
  refine ho_getI C cf9 fH_RX9_9 hR ha0 dX9_keep_51 ?_
  obtain ⟨S2, e2, hi2, h⟩ := stI_ok h
  refine hr_ist C hR (rH_9_5 ha0) hi2 e2 dX9_keep_54 (fun H locs hR => ?_)
  refine lv_aload_n C.1 C.2.1 dX9_keep_55 rfl (lv_at hl 1 rfl) ?_
  refine ho_getR (a' := (a0 + 5)) C cf9 fH_RX9_37 hR ha0 (pH_9_8 ha0.2) dX9_keep_56 ?_
  refine lv_iload_n C.1 C.2.1 dX9_keep_59 rfl (lv_at hl 0 rfl) ?_
  refine lv_iconst (v := (1 : Int32)) C.1 C.2.1 dX9_keep_60 (by decide) ?_
  refine lv_iadd C.1 C.2.1 dX9_keep_61 ?_
  refine lv_iload_n C.1 C.2.1 dX9_keep_62 rfl (lv_at hl 2 rfl) ?_
  obtain ⟨S3, e3, hi3, h⟩ := stI_ok h
  refine hr_ist C hR (rH_9_5 ha0) hi3 e3 dX9_keep_63 (fun H locs hR => ?_)
  refine lv_aload_n C.1 C.2.1 dX9_keep_64 rfl (lv_at hl 1 rfl) ?_
  refine ho_getR (a' := (a0 + 5)) C cf9 fH_RX9_37 hR ha0 (pH_9_8 ha0.2) dX9_keep_65 ?_
  refine lv_iload_n C.1 C.2.1 dX9_keep_68 rfl (lv_at hl 0 rfl) ?_
  refine lv_iconst (v := (2 : Int32)) C.1 C.2.1 dX9_keep_69 (by decide) ?_
  refine lv_iadd C.1 C.2.1 dX9_keep_70 ?_
  refine lv_aload_n C.1 C.2.1 dX9_keep_71 rfl (lv_at hl 1 rfl) ?_
  refine ho_getI C cf9 fH_RX9_18 hR ha0 dX9_keep_72 ?_
  obtain ⟨S4, e4, hi4, h⟩ := stI_ok h
  refine hr_ist C hR (rH_9_5 ha0) hi4 e4 dX9_keep_75 (fun H locs hR => ?_)
  refine lv_aload_n C.1 C.2.1 dX9_keep_76 rfl (lv_at hl 1 rfl) ?_
  refine lv_dup C.1 C.2.1 dX9_keep_77 rfl ?_
  refine ho_getI C cf9 fH_RX9_34 hR ha0 dX9_keep_78 ?_
  refine lv_iconst (v := (1 : Int32)) C.1 C.2.1 dX9_keep_81 (by decide) ?_
  refine lv_iadd C.1 C.2.1 dX9_keep_82 ?_
  obtain ⟨S5, e5, h⟩ := le1_ok h
  refine hr_putI C cf9 fH_RX9_34 hR ha0 e5 dX9_keep_83 (fun H locs hR => ?_)
  exact ho_vret C hR h dX9_keep_86
def f_X9_keep (a0 : Nat) (x1 : Int32) (S : Hp) : Option Hp :=
  if (S.1 a0 7) = (30 : Int32) then le1 (ho_sI S a0 7 ((S.1 a0 7) - (1 : Int32))) (fun S1 => cpI S1 (a0 + 5) 90 (3 : Int32) (a0 + 5) 90 (0 : Int32) ((S1.1 a0 7) * (3 : Int32)) (fun S2 => f_X9_keep_38 a0 x1 S2)) else f_X9_keep_38 a0 x1 S
set_option maxHeartbeats 4000000 in
set_option maxRecDepth 100000 in
theorem c_X9_keep (l : Launch) (E : Ev) (a0 : Nat) (x1 : Int32) (ha0 : a0 ∈ yH.1 ∧ yH.2.1 a0 = (1, 9)) (S : Hp) (r : Hp) (h : f_X9_keep a0 x1 S = some r) : ho_M l yH E yX9_keep cX9_keep 3 none 1 [.ref (E.2.1 a0), .int x1] S (none, r) := by
  refine ho_in (by decide) (Nat.le_of_ble_eq_true rfl) ?_
  intro p e s m args below meth c C hR ls hl
  have C : ho_I p s m args meth c RX9 cX9_keep 3 none := C
  have hl : lv_has ls 3 [(0, .ref (E.2.1 a0)), (1, .int x1)] := hl
  unfold f_X9_keep at h
  refine lv_aload_n C.1 C.2.1 dX9_keep_0 rfl (lv_at hl 0 rfl) ?_
  refine ho_getI C cf9 fH_RX9_34 hR ha0 dX9_keep_1 ?_
  refine lv_bipush (v := (30 : Int32)) C.1 C.2.1 dX9_keep_4 (by decide) ?_
  refine lv_icmp_ne (tgt := 38) C.1 C.2.1 dX9_keep_6 (by decide) (fun hc => ?_) (fun hc => ?_)
  · replace h := if_f h hc
    exact w_X9_keep_38 C a0 ha0 x1 S h _ _ _ hR (lv_sub hl [0, 1] rfl)
  · replace h := if_t h hc
    refine lv_aload_n C.1 C.2.1 dX9_keep_9 rfl (lv_at hl 0 rfl) ?_
    refine lv_dup C.1 C.2.1 dX9_keep_10 rfl ?_
    refine ho_getI C cf9 fH_RX9_34 hR ha0 dX9_keep_11 ?_
    refine lv_iconst (v := (1 : Int32)) C.1 C.2.1 dX9_keep_14 (by decide) ?_
    refine lv_isub C.1 C.2.1 dX9_keep_15 ?_
    obtain ⟨S1, e1, h⟩ := le1_ok h
    refine hr_putI C cf9 fH_RX9_34 hR ha0 e1 dX9_keep_16 (fun H locs hR => ?_)
    refine lv_aload_n C.1 C.2.1 dX9_keep_19 rfl (lv_at hl 0 rfl) ?_
    refine ho_getR (a' := (a0 + 5)) C cf9 fH_RX9_37 hR ha0 (pH_9_8 ha0.2) dX9_keep_20 ?_
    refine lv_iconst (v := (3 : Int32)) C.1 C.2.1 dX9_keep_23 (by decide) ?_
    refine lv_aload_n C.1 C.2.1 dX9_keep_24 rfl (lv_at hl 0 rfl) ?_
    refine ho_getR (a' := (a0 + 5)) C cf9 fH_RX9_37 hR ha0 (pH_9_8 ha0.2) dX9_keep_25 ?_
    refine lv_iconst (v := (0 : Int32)) C.1 C.2.1 dX9_keep_28 (by decide) ?_
    refine lv_aload_n C.1 C.2.1 dX9_keep_29 rfl (lv_at hl 0 rfl) ?_
    refine ho_getI C cf9 fH_RX9_34 hR ha0 dX9_keep_30 ?_
    refine lv_iconst (v := (3 : Int32)) C.1 C.2.1 dX9_keep_33 (by decide) ?_
    refine lv_imul C.1 C.2.1 dX9_keep_34 ?_
    obtain ⟨S2, e2, hh2, h⟩ := cpI_ok h
    refine hr_cpy C ac_RX9_56 hR (rH_9_5 ha0) (rH_9_5 ha0) hh2 e2 hl.1 (Nat.le_of_ble_eq_true rfl) (by decide) dX9_keep_35 (fun H locs hR => ?_)
    exact w_X9_keep_38 C a0 ha0 x1 S2 h _ _ _ hR (lv_sub hl [0, 1] rfl)
theorem dX8_loseBelief_0 : decode cX8_loseBelief 0 = .ok (.iconst 0, 1) := by decide +kernel
theorem dX8_loseBelief_1 : decode cX8_loseBelief 1 = .ok (.istore_n 3, 1) := by decide +kernel
theorem dX8_loseBelief_2 : decode cX8_loseBelief 2 = .ok (.iload_n 3, 1) := by decide +kernel
theorem dX8_loseBelief_3 : decode cX8_loseBelief 3 = .ok (.aload_n 0, 1) := by decide +kernel
theorem dX8_loseBelief_4 : decode cX8_loseBelief 4 = .ok (.getfield 36, 3) := by decide +kernel
theorem dX8_loseBelief_7 : decode cX8_loseBelief 7 = .ok (.getfield 75, 3) := by decide +kernel
theorem dX8_loseBelief_10 : decode cX8_loseBelief 10 = .ok (.iconst 1, 1) := by decide +kernel
theorem dX8_loseBelief_11 : decode cX8_loseBelief 11 = .ok (.iaload, 1) := by decide +kernel
theorem dX8_loseBelief_12 : decode cX8_loseBelief 12 = .ok (.if_icmp .ge 125, 3) := by decide +kernel
theorem dX8_loseBelief_15 : decode cX8_loseBelief 15 = .ok (.iload_n 2, 1) := by decide +kernel
theorem dX8_loseBelief_16 : decode cX8_loseBelief 16 = .ok (.iload_n 3, 1) := by decide +kernel
theorem dX8_loseBelief_17 : decode cX8_loseBelief 17 = .ok (.ishr, 1) := by decide +kernel
theorem dX8_loseBelief_18 : decode cX8_loseBelief 18 = .ok (.iconst 1, 1) := by decide +kernel
theorem dX8_loseBelief_19 : decode cX8_loseBelief 19 = .ok (.iand, 1) := by decide +kernel
theorem dX8_loseBelief_20 : decode cX8_loseBelief 20 = .ok (.iconst 1, 1) := by decide +kernel
theorem dX8_loseBelief_21 : decode cX8_loseBelief 21 = .ok (.if_icmp .ne 110, 3) := by decide +kernel
theorem dX8_loseBelief_24 : decode cX8_loseBelief 24 = .ok (.aload_n 0, 1) := by decide +kernel
theorem dX8_loseBelief_25 : decode cX8_loseBelief 25 = .ok (.getfield 30, 3) := by decide +kernel
theorem dX8_loseBelief_28 : decode cX8_loseBelief 28 = .ok (.bipush 8, 2) := by decide +kernel
theorem dX8_loseBelief_30 : decode cX8_loseBelief 30 = .ok (.aload_n 0, 1) := by decide +kernel
theorem dX8_loseBelief_31 : decode cX8_loseBelief 31 = .ok (.getfield 36, 3) := by decide +kernel
theorem dX8_loseBelief_34 : decode cX8_loseBelief 34 = .ok (.getfield 42, 3) := by decide +kernel
theorem dX8_loseBelief_37 : decode cX8_loseBelief 37 = .ok (.iload_n 3, 1) := by decide +kernel
theorem dX8_loseBelief_38 : decode cX8_loseBelief 38 = .ok (.iaload, 1) := by decide +kernel
theorem dX8_loseBelief_39 : decode cX8_loseBelief 39 = .ok (.iastore, 1) := by decide +kernel
theorem dX8_loseBelief_40 : decode cX8_loseBelief 40 = .ok (.aload_n 0, 1) := by decide +kernel
theorem dX8_loseBelief_41 : decode cX8_loseBelief 41 = .ok (.getfield 30, 3) := by decide +kernel
theorem dX8_loseBelief_44 : decode cX8_loseBelief 44 = .ok (.bipush 16, 2) := by decide +kernel
theorem dX8_loseBelief_46 : decode cX8_loseBelief 46 = .ok (.aload_n 1, 1) := by decide +kernel
theorem dX8_loseBelief_47 : decode cX8_loseBelief 47 = .ok (.getfield 47, 3) := by decide +kernel
theorem dX8_loseBelief_50 : decode cX8_loseBelief 50 = .ok (.iload_n 3, 1) := by decide +kernel
theorem dX8_loseBelief_51 : decode cX8_loseBelief 51 = .ok (.iaload, 1) := by decide +kernel
theorem dX8_loseBelief_52 : decode cX8_loseBelief 52 = .ok (.iastore, 1) := by decide +kernel
theorem dX8_loseBelief_53 : decode cX8_loseBelief 53 = .ok (.aload_n 0, 1) := by decide +kernel
theorem dX8_loseBelief_54 : decode cX8_loseBelief 54 = .ok (.getfield 30, 3) := by decide +kernel
theorem dX8_loseBelief_57 : decode cX8_loseBelief 57 = .ok (.bipush 17, 2) := by decide +kernel
theorem dX8_loseBelief_59 : decode cX8_loseBelief 59 = .ok (.aload_n 1, 1) := by decide +kernel
theorem dX8_loseBelief_60 : decode cX8_loseBelief 60 = .ok (.getfield 52, 3) := by decide +kernel
theorem dX8_loseBelief_63 : decode cX8_loseBelief 63 = .ok (.iastore, 1) := by decide +kernel
theorem dX8_loseBelief_64 : decode cX8_loseBelief 64 = .ok (.aload_n 0, 1) := by decide +kernel
theorem dX8_loseBelief_65 : decode cX8_loseBelief 65 = .ok (.getfield 30, 3) := by decide +kernel
theorem dX8_loseBelief_68 : decode cX8_loseBelief 68 = .ok (.bipush 6, 2) := by decide +kernel
theorem dX8_loseBelief_70 : decode cX8_loseBelief 70 = .ok (.aload_n 0, 1) := by decide +kernel
theorem dX8_loseBelief_71 : decode cX8_loseBelief 71 = .ok (.getfield 36, 3) := by decide +kernel
theorem dX8_loseBelief_74 : decode cX8_loseBelief 74 = .ok (.getfield 93, 3) := by decide +kernel
theorem dX8_loseBelief_77 : decode cX8_loseBelief 77 = .ok (.iload_n 3, 1) := by decide +kernel
theorem dX8_loseBelief_78 : decode cX8_loseBelief 78 = .ok (.iaload, 1) := by decide +kernel
theorem dX8_loseBelief_79 : decode cX8_loseBelief 79 = .ok (.iastore, 1) := by decide +kernel
theorem dX8_loseBelief_80 : decode cX8_loseBelief 80 = .ok (.aload_n 0, 1) := by decide +kernel
theorem dX8_loseBelief_81 : decode cX8_loseBelief 81 = .ok (.getfield 30, 3) := by decide +kernel
theorem dX8_loseBelief_84 : decode cX8_loseBelief 84 = .ok (.bipush 14, 2) := by decide +kernel
theorem dX8_loseBelief_86 : decode cX8_loseBelief 86 = .ok (.aload_n 1, 1) := by decide +kernel
theorem dX8_loseBelief_87 : decode cX8_loseBelief 87 = .ok (.getfield 105, 3) := by decide +kernel
theorem dX8_loseBelief_90 : decode cX8_loseBelief 90 = .ok (.iastore, 1) := by decide +kernel
theorem dX8_loseBelief_91 : decode cX8_loseBelief 91 = .ok (.iconst 0, 1) := by decide +kernel
theorem dX8_loseBelief_92 : decode cX8_loseBelief 92 = .ok (.aload_n 0, 1) := by decide +kernel
theorem dX8_loseBelief_93 : decode cX8_loseBelief 93 = .ok (.getfield 36, 3) := by decide +kernel
theorem dX8_loseBelief_96 : decode cX8_loseBelief 96 = .ok (.getfield 162, 3) := by decide +kernel
theorem dX8_loseBelief_99 : decode cX8_loseBelief 99 = .ok (.aload_n 0, 1) := by decide +kernel
theorem dX8_loseBelief_100 : decode cX8_loseBelief 100 = .ok (.getfield 30, 3) := by decide +kernel
theorem dX8_loseBelief_103 : decode cX8_loseBelief 103 = .ok (.invokevirtual 62, 3) := by decide +kernel
theorem dX8_loseBelief_106 : decode cX8_loseBelief 106 = .ok (.invokestatic 72, 3) := by decide +kernel
theorem dX8_loseBelief_109 : decode cX8_loseBelief 109 = .ok (.istore 4, 2) := by decide +kernel
theorem dX8_loseBelief_111 : decode cX8_loseBelief 111 = .ok (.aload_n 1, 1) := by decide +kernel
theorem dX8_loseBelief_112 : decode cX8_loseBelief 112 = .ok (.iconst 0, 1) := by decide +kernel
theorem dX8_loseBelief_113 : decode cX8_loseBelief 113 = .ok (.aload_n 1, 1) := by decide +kernel
theorem dX8_loseBelief_114 : decode cX8_loseBelief 114 = .ok (.getfield 105, 3) := by decide +kernel
theorem dX8_loseBelief_117 : decode cX8_loseBelief 117 = .ok (.iload 4, 2) := by decide +kernel
theorem dX8_loseBelief_119 : decode cX8_loseBelief 119 = .ok (.isub, 1) := by decide +kernel
theorem dX8_loseBelief_120 : decode cX8_loseBelief 120 = .ok (.invokestatic 72, 3) := by decide +kernel
theorem dX8_loseBelief_123 : decode cX8_loseBelief 123 = .ok (.putfield 105, 3) := by decide +kernel
theorem dX8_loseBelief_126 : decode cX8_loseBelief 126 = .ok (.aload_n 1, 1) := by decide +kernel
theorem dX8_loseBelief_127 : decode cX8_loseBelief 127 = .ok (.iload_n 3, 1) := by decide +kernel
theorem dX8_loseBelief_128 : decode cX8_loseBelief 128 = .ok (.invokevirtual 165, 3) := by decide +kernel
theorem dX8_loseBelief_131 : decode cX8_loseBelief 131 = .ok (.iinc 3 1, 3) := by decide +kernel
theorem dX8_loseBelief_134 : decode cX8_loseBelief 134 = .ok (.goto (-132), 3) := by decide +kernel
theorem dX8_loseBelief_137 : decode cX8_loseBelief 137 = .ok (.return_, 1) := by decide +kernel
def f_X8_loseBelief_131 (K2 : Int32 → Int32 → Hp → Option Hp) (a1 : Nat) (x2 : Int32) (x3 : Int32) (S : Hp) : Option Hp :=
  le1 (x3 + (1 : Int32)) (fun v1 => K2 x2 v1 S)
set_option maxHeartbeats 4000000 in
set_option maxRecDepth 100000 in
theorem w_X8_loseBelief_131 {p : Program} {l : Launch} {e : Env} {s : State} {m : MethodId} {args : Array Value} {below : List Frame} {meth : Method} {c : Code} {E : Ev} {S0 : Hp} {r : Hp} (C : ho_I p s m args meth c RX8 cX8_loseBelief 5 none) (K2 : Int32 → Int32 → Hp → Option Hp) (a1 : Nat) (ha1 : a1 ∈ yH.1 ∧ yH.2.1 a1 = (1, 9)) (hK2 : ∀ (y2 : Int32) (y3 : Int32) (S : Hp), K2 y2 y3 S = some r → ho_G p l e s m args below meth c yH E S0 3 5 (none, r) 2 [(0, .ref (E.2.1 50)), (1, .ref (E.2.1 a1)), (2, .int y2), (3, .int y3)] [] S) :
    ∀ (x2 : Int32) (x3 : Int32) (S : Hp), f_X8_loseBelief_131 K2 a1 x2 x3 S = some r → ho_G p l e s m args below meth c yH E S0 3 5 (none, r) 131 [(0, .ref (E.2.1 50)), (1, .ref (E.2.1 a1)), (2, .int x2), (3, .int x3)] [] S := by
  intro x2 x3 S h H locs ls hR hl
  unfold f_X8_loseBelief_131 at h
  obtain ⟨v1, e1, h⟩ := le1_ok h
  refine lv_iinc (v := v1) (lv' := [(3, .int v1), (0, .ref (E.2.1 50)), (1, .ref (E.2.1 a1)), (2, .int x2)]) C.1 C.2.1 dX8_loseBelief_131 hl (k := 3) rfl (by rw [e1]; rfl) (by decide) rfl (fun ls hl => ?_)
  refine lv_goto (tgt := 2) C.1 C.2.1 dX8_loseBelief_134 (by decide) ?_
  exact hK2 x2 v1 S h _ _ _ hR (lv_sub hl [1, 2, 3, 0] rfl)
def f_X8_loseBelief_2 (a1 : Nat) : Nat → Int32 → Int32 → Hp → Option Hp
  | 0, _, _, _ => none
  | k + 1, x2, x3, S => ldP yH S 50 0 2 (fun p1 => ldI S (p1 + 1) 3 (1 : Int32) (fun v2 => if v2 ≤ x3 then some S else if ((x2 >>> (x3 &&& 31)) &&& (1 : Int32)) = (1 : Int32) then ldP yH S 50 0 2 (fun p3 => ldI S (p3 + 10) 6 x3 (fun v4 => stI S 53 40 (8 : Int32) v4 (fun S5 => ldI S5 (a1 + 2) 6 x3 (fun v6 => stI S5 53 40 (16 : Int32) v6 (fun S7 => stI S7 53 40 (17 : Int32) (S7.1 a1 0) (fun S8 => ldP yH S8 50 0 2 (fun p9 => ldI S8 (p9 + 8) 6 x3 (fun v10 => stI S8 53 40 (6 : Int32) v10 (fun S11 => stI S11 53 40 (14 : Int32) (S11.1 a1 2) (fun S12 => ldP yH S12 50 0 2 (fun p13 => ob2 (f_X4_value (p13 + 16) 53 40 S12) (fun r14 S14 => ob2 (f_J9_max_7cf53 (0 : Int32) r14 S14) (fun r15 S15 => ob2 (f_J9_max_7cf53 (0 : Int32) ((S15.1 a1 2) - r15) S15) (fun r16 S16 => le1 (ho_sI S16 a1 2 r16) (fun S17 => ob (f_X9_keep a1 x3 S17) (fun S18 => f_X8_loseBelief_131 (f_X8_loseBelief_2 a1 k) a1 x2 x3 S18)))))))))))))))) else f_X8_loseBelief_131 (f_X8_loseBelief_2 a1 k) a1 x2 x3 S))
set_option maxHeartbeats 4000000 in
set_option maxRecDepth 100000 in
theorem w_X8_loseBelief_2 {p : Program} {l : Launch} {e : Env} {s : State} {m : MethodId} {args : Array Value} {below : List Frame} {meth : Method} {c : Code} {E : Ev} {S0 : Hp} {r : Hp} (C : ho_I p s m args meth c RX8 cX8_loseBelief 5 none) (a1 : Nat) (ha1 : a1 ∈ yH.1 ∧ yH.2.1 a1 = (1, 9)) :
    ∀ (k : Nat) (x2 : Int32) (x3 : Int32) (S : Hp), f_X8_loseBelief_2 a1 k x2 x3 S = some r → ho_G p l e s m args below meth c yH E S0 3 5 (none, r) 2 [(0, .ref (E.2.1 50)), (1, .ref (E.2.1 a1)), (2, .int x2), (3, .int x3)] [] S := by
  intro k
  induction k with
  | zero =>
    intro x2 x3 S h
    exact absurd (show (none : Option Hp) = some r from h) (by simp)
  | succ k ih =>
    intro x2 x3 S h H locs ls hR hl
    rw [f_X8_loseBelief_2] at h
    refine lv_iload_n C.1 C.2.1 dX8_loseBelief_2 rfl (lv_at hl 3 rfl) ?_
    refine lv_aload_n C.1 C.2.1 dX8_loseBelief_3 rfl (lv_at hl 0 rfl) ?_
    obtain ⟨p1, e1, hp1, h⟩ := ldP_ok h
    refine hr_getP C cf8 fH_RX8_36 hR aH_50 e1 dX8_loseBelief_4 ?_
    refine ho_getR (a' := (p1 + 1)) C cf2 fH_RX8_75 hR hp1 (pH_2_5 hp1.2) dX8_loseBelief_7 ?_
    refine lv_iconst (v := (1 : Int32)) C.1 C.2.1 dX8_loseBelief_10 (by decide) ?_
    obtain ⟨v2, e2, hi2, h⟩ := ldI_ok h
    refine hr_ild C hR (rH_2_1 hp1) hi2 e2 dX8_loseBelief_11 ?_
    refine lv_icmp_ge (tgt := 137) C.1 C.2.1 dX8_loseBelief_12 (by decide) (fun hc => ?_) (fun hc => ?_)
    · replace h := if_t h hc
      exact ho_vret C hR h dX8_loseBelief_137
    · replace h := if_f h hc
      refine lv_iload_n C.1 C.2.1 dX8_loseBelief_15 rfl (lv_at hl 2 rfl) ?_
      refine lv_iload_n C.1 C.2.1 dX8_loseBelief_16 rfl (lv_at hl 3 rfl) ?_
      refine lv_ishr C.1 C.2.1 dX8_loseBelief_17 ?_
      refine lv_iconst (v := (1 : Int32)) C.1 C.2.1 dX8_loseBelief_18 (by decide) ?_
      refine lv_iand C.1 C.2.1 dX8_loseBelief_19 ?_
      refine lv_iconst (v := (1 : Int32)) C.1 C.2.1 dX8_loseBelief_20 (by decide) ?_
      refine lv_icmp_ne (tgt := 131) C.1 C.2.1 dX8_loseBelief_21 (by decide) (fun hc => ?_) (fun hc => ?_)
      · replace h := if_f h hc
        exact w_X8_loseBelief_131 C (f_X8_loseBelief_2 a1 k) a1 ha1 ih x2 x3 S h _ _ _ hR (lv_sub hl [0, 1, 2, 3] rfl)
      · replace h := if_t h hc
        refine lv_aload_n C.1 C.2.1 dX8_loseBelief_24 rfl (lv_at hl 0 rfl) ?_
        refine ho_getR (a' := 53) C cf8 fH_RX8_30 hR aH_50 rfl dX8_loseBelief_25 ?_
        refine lv_bipush (v := (8 : Int32)) C.1 C.2.1 dX8_loseBelief_28 (by decide) ?_
        refine lv_aload_n C.1 C.2.1 dX8_loseBelief_30 rfl (lv_at hl 0 rfl) ?_
        obtain ⟨p3, e3, hp3, h⟩ := ldP_ok h
        refine hr_getP C cf8 fH_RX8_36 hR aH_50 e3 dX8_loseBelief_31 ?_
        refine ho_getR (a' := (p3 + 10)) C cf2 fH_RX8_42 hR hp3 (pH_2_11 hp3.2) dX8_loseBelief_34 ?_
        refine lv_iload_n C.1 C.2.1 dX8_loseBelief_37 rfl (lv_at hl 3 rfl) ?_
        obtain ⟨v4, e4, hi4, h⟩ := ldI_ok h
        refine hr_ild C hR (rH_2_10 hp3) hi4 e4 dX8_loseBelief_38 ?_
        obtain ⟨S5, e5, hi5, h⟩ := stI_ok h
        refine hr_ist C hR aH_53 hi5 e5 dX8_loseBelief_39 (fun H locs hR => ?_)
        refine lv_aload_n C.1 C.2.1 dX8_loseBelief_40 rfl (lv_at hl 0 rfl) ?_
        refine ho_getR (a' := 53) C cf8 fH_RX8_30 hR aH_50 rfl dX8_loseBelief_41 ?_
        refine lv_bipush (v := (16 : Int32)) C.1 C.2.1 dX8_loseBelief_44 (by decide) ?_
        refine lv_aload_n C.1 C.2.1 dX8_loseBelief_46 rfl (lv_at hl 1 rfl) ?_
        refine ho_getR (a' := (a1 + 2)) C cf9 fH_RX8_47 hR ha1 (pH_9_4 ha1.2) dX8_loseBelief_47 ?_
        refine lv_iload_n C.1 C.2.1 dX8_loseBelief_50 rfl (lv_at hl 3 rfl) ?_
        obtain ⟨v6, e6, hi6, h⟩ := ldI_ok h
        refine hr_ild C hR (rH_9_2 ha1) hi6 e6 dX8_loseBelief_51 ?_
        obtain ⟨S7, e7, hi7, h⟩ := stI_ok h
        refine hr_ist C hR aH_53 hi7 e7 dX8_loseBelief_52 (fun H locs hR => ?_)
        refine lv_aload_n C.1 C.2.1 dX8_loseBelief_53 rfl (lv_at hl 0 rfl) ?_
        refine ho_getR (a' := 53) C cf8 fH_RX8_30 hR aH_50 rfl dX8_loseBelief_54 ?_
        refine lv_bipush (v := (17 : Int32)) C.1 C.2.1 dX8_loseBelief_57 (by decide) ?_
        refine lv_aload_n C.1 C.2.1 dX8_loseBelief_59 rfl (lv_at hl 1 rfl) ?_
        refine ho_getI C cf9 fH_RX8_52 hR ha1 dX8_loseBelief_60 ?_
        obtain ⟨S8, e8, hi8, h⟩ := stI_ok h
        refine hr_ist C hR aH_53 hi8 e8 dX8_loseBelief_63 (fun H locs hR => ?_)
        refine lv_aload_n C.1 C.2.1 dX8_loseBelief_64 rfl (lv_at hl 0 rfl) ?_
        refine ho_getR (a' := 53) C cf8 fH_RX8_30 hR aH_50 rfl dX8_loseBelief_65 ?_
        refine lv_bipush (v := (6 : Int32)) C.1 C.2.1 dX8_loseBelief_68 (by decide) ?_
        refine lv_aload_n C.1 C.2.1 dX8_loseBelief_70 rfl (lv_at hl 0 rfl) ?_
        obtain ⟨p9, e9, hp9, h⟩ := ldP_ok h
        refine hr_getP C cf8 fH_RX8_36 hR aH_50 e9 dX8_loseBelief_71 ?_
        refine ho_getR (a' := (p9 + 8)) C cf2 fH_RX8_93 hR hp9 (pH_2_9 hp9.2) dX8_loseBelief_74 ?_
        refine lv_iload_n C.1 C.2.1 dX8_loseBelief_77 rfl (lv_at hl 3 rfl) ?_
        obtain ⟨v10, e10, hi10, h⟩ := ldI_ok h
        refine hr_ild C hR (rH_2_8 hp9) hi10 e10 dX8_loseBelief_78 ?_
        obtain ⟨S11, e11, hi11, h⟩ := stI_ok h
        refine hr_ist C hR aH_53 hi11 e11 dX8_loseBelief_79 (fun H locs hR => ?_)
        refine lv_aload_n C.1 C.2.1 dX8_loseBelief_80 rfl (lv_at hl 0 rfl) ?_
        refine ho_getR (a' := 53) C cf8 fH_RX8_30 hR aH_50 rfl dX8_loseBelief_81 ?_
        refine lv_bipush (v := (14 : Int32)) C.1 C.2.1 dX8_loseBelief_84 (by decide) ?_
        refine lv_aload_n C.1 C.2.1 dX8_loseBelief_86 rfl (lv_at hl 1 rfl) ?_
        refine ho_getI C cf9 fH_RX8_105 hR ha1 dX8_loseBelief_87 ?_
        obtain ⟨S12, e12, hi12, h⟩ := stI_ok h
        refine hr_ist C hR aH_53 hi12 e12 dX8_loseBelief_90 (fun H locs hR => ?_)
        refine lv_iconst (v := (0 : Int32)) C.1 C.2.1 dX8_loseBelief_91 (by decide) ?_
        refine lv_aload_n C.1 C.2.1 dX8_loseBelief_92 rfl (lv_at hl 0 rfl) ?_
        obtain ⟨p13, e13, hp13, h⟩ := ldP_ok h
        refine hr_getP C cf8 fH_RX8_36 hR aH_50 e13 dX8_loseBelief_93 ?_
        refine ho_getR (a' := (p13 + 16)) C cf2 fH_RX8_162 hR hp13 (pH_2_15 hp13.2) dX8_loseBelief_96 ?_
        refine lv_aload_n C.1 C.2.1 dX8_loseBelief_99 rfl (lv_at hl 0 rfl) ?_
        refine ho_getR (a' := 53) C cf8 fH_RX8_30 hR aH_50 rfl dX8_loseBelief_100 ?_
        obtain ⟨r14, S14, h14, h⟩ := ob2_ok h
        refine hr_Vi (v := r14) (S' := S14) (As := [.ref (E.2.1 53)]) (rest := [.int (0 : Int32)]) C cf4 (c_X4_value l E (p13 + 16) 53 40 (rH_2_16 hp13) aH_53 _ _ h14) yv_X4_value lk_RX8_62 rfl (rH_2_16 hp13) rfl rfl hl.1 (Nat.le_of_ble_eq_true rfl) (by decide) (by decide) hR (ho_A hR) dX8_loseBelief_103 (fun H locs hR => ?_)
        obtain ⟨r15, S15, h15, h⟩ := ob2_ok h
        refine hr_Si (v := r15) (S' := S15) (As := [.int (0 : Int32), .int r14]) (rest := []) C (c_J9_max_7cf53 l E (0 : Int32) r14 _ _ h15) ys_J9_max_7cf53 lk_RX8_72 rfl rfl hl.1 (Nat.le_of_ble_eq_true rfl) (by decide) (by decide) hR (ho_A hR) dX8_loseBelief_106 (fun H locs hR => ?_)
        refine lv_istore (lv' := [(4, .int r15), (0, .ref (E.2.1 50)), (1, .ref (E.2.1 a1)), (2, .int x2), (3, .int x3)]) C.1 C.2.1 dX8_loseBelief_109 hl (by decide) rfl (fun ls hl => ?_)
        refine lv_aload_n C.1 C.2.1 dX8_loseBelief_111 rfl (lv_at hl 2 rfl) ?_
        refine lv_iconst (v := (0 : Int32)) C.1 C.2.1 dX8_loseBelief_112 (by decide) ?_
        refine lv_aload_n C.1 C.2.1 dX8_loseBelief_113 rfl (lv_at hl 2 rfl) ?_
        refine ho_getI C cf9 fH_RX8_105 hR ha1 dX8_loseBelief_114 ?_
        refine lv_iload C.1 C.2.1 dX8_loseBelief_117 (lv_at hl 0 rfl) ?_
        refine lv_isub C.1 C.2.1 dX8_loseBelief_119 ?_
        obtain ⟨r16, S16, h16, h⟩ := ob2_ok h
        refine hr_Si (v := r16) (S' := S16) (As := [.int (0 : Int32), .int ((S15.1 a1 2) - r15)]) (rest := [.ref (E.2.1 a1)]) C (c_J9_max_7cf53 l E (0 : Int32) ((S15.1 a1 2) - r15) _ _ h16) ys_J9_max_7cf53 lk_RX8_72 rfl rfl hl.1 (Nat.le_of_ble_eq_true rfl) (by decide) (by decide) hR (ho_A hR) dX8_loseBelief_120 (fun H locs hR => ?_)
        obtain ⟨S17, e17, h⟩ := le1_ok h
        refine hr_putI C cf9 fH_RX8_105 hR ha1 e17 dX8_loseBelief_123 (fun H locs hR => ?_)
        refine lv_aload_n C.1 C.2.1 dX8_loseBelief_126 rfl (lv_at hl 2 rfl) ?_
        refine lv_iload_n C.1 C.2.1 dX8_loseBelief_127 rfl (lv_at hl 4 rfl) ?_
        obtain ⟨S18, h18, h⟩ := ob_ok h
        refine hr_Vv (S' := S18) (As := [.int x3]) (rest := []) C cf9 (c_X9_keep l E a1 x3 ha1 _ _ h18) yv_X9_keep lk_RX8_165 rfl ha1 rfl rfl hl.1 (Nat.le_of_ble_eq_true rfl) (by decide) (by decide) hR (ho_A hR) dX8_loseBelief_128 (fun H locs hR => ?_)
        exact w_X8_loseBelief_131 C (f_X8_loseBelief_2 a1 k) a1 ha1 ih x2 x3 S18 h _ _ _ hR (lv_sub hl [1, 2, 3, 4] rfl)
def f_X8_loseBelief (a1 : Nat) (x2 : Int32) (S : Hp) : Option Hp :=
  f_X8_loseBelief_2 a1 5000 x2 (0 : Int32) S
set_option maxHeartbeats 4000000 in
set_option maxRecDepth 100000 in
theorem c_X8_loseBelief (l : Launch) (E : Ev) (a1 : Nat) (x2 : Int32) (ha1 : a1 ∈ yH.1 ∧ yH.2.1 a1 = (1, 9)) (S : Hp) (r : Hp) (h : f_X8_loseBelief a1 x2 S = some r) : ho_M l yH E yX8_loseBelief cX8_loseBelief 5 none 3 [.ref (E.2.1 50), .ref (E.2.1 a1), .int x2] S (none, r) := by
  refine ho_in (by decide) (Nat.le_of_ble_eq_true rfl) ?_
  intro p e s m args below meth c C hR ls hl
  have C : ho_I p s m args meth c RX8 cX8_loseBelief 5 none := C
  have hl : lv_has ls 5 [(0, .ref (E.2.1 50)), (1, .ref (E.2.1 a1)), (2, .int x2)] := hl
  unfold f_X8_loseBelief at h
  refine lv_iconst (v := (0 : Int32)) C.1 C.2.1 dX8_loseBelief_0 (by decide) ?_
  refine lv_istore_n (lv' := [(3, .int (0 : Int32)), (0, .ref (E.2.1 50)), (1, .ref (E.2.1 a1)), (2, .int x2)]) C.1 C.2.1 dX8_loseBelief_1 rfl hl (by decide) rfl (fun ls hl => ?_)
  exact w_X8_loseBelief_2 C a1 ha1 5000 x2 (0 : Int32) S h _ _ _ hR (lv_sub hl [1, 2, 3, 0] rfl)
theorem dX8_pay_0 : decode cX8_pay 0 = .ok (.iconst 0, 1) := by decide +kernel
theorem dX8_pay_1 : decode cX8_pay 1 = .ok (.aload_n 1, 1) := by decide +kernel
theorem dX8_pay_2 : decode cX8_pay 2 = .ok (.getfield 169, 3) := by decide +kernel
theorem dX8_pay_5 : decode cX8_pay 5 = .ok (.aload_n 0, 1) := by decide +kernel
theorem dX8_pay_6 : decode cX8_pay 6 = .ok (.getfield 36, 3) := by decide +kernel
theorem dX8_pay_9 : decode cX8_pay 9 = .ok (.getfield 133, 3) := by decide +kernel
theorem dX8_pay_12 : decode cX8_pay 12 = .ok (.iadd, 1) := by decide +kernel
theorem dX8_pay_13 : decode cX8_pay 13 = .ok (.iload_n 2, 1) := by decide +kernel
theorem dX8_pay_14 : decode cX8_pay 14 = .ok (.isub, 1) := by decide +kernel
theorem dX8_pay_15 : decode cX8_pay 15 = .ok (.invokestatic 72, 3) := by decide +kernel
theorem dX8_pay_18 : decode cX8_pay 18 = .ok (.istore_n 3, 1) := by decide +kernel
theorem dX8_pay_19 : decode cX8_pay 19 = .ok (.aload_n 1, 1) := by decide +kernel
theorem dX8_pay_20 : decode cX8_pay 20 = .ok (.ldc 172, 2) := by decide +kernel
theorem dX8_pay_22 : decode cX8_pay 22 = .ok (.iload_n 3, 1) := by decide +kernel
theorem dX8_pay_23 : decode cX8_pay 23 = .ok (.iload_n 3, 1) := by decide +kernel
theorem dX8_pay_24 : decode cX8_pay 24 = .ok (.aload_n 0, 1) := by decide +kernel
theorem dX8_pay_25 : decode cX8_pay 25 = .ok (.getfield 36, 3) := by decide +kernel
theorem dX8_pay_28 : decode cX8_pay 28 = .ok (.getfield 173, 3) := by decide +kernel
theorem dX8_pay_31 : decode cX8_pay 31 = .ok (.imul, 1) := by decide +kernel
theorem dX8_pay_32 : decode cX8_pay 32 = .ok (.bipush 100, 2) := by decide +kernel
theorem dX8_pay_34 : decode cX8_pay 34 = .ok (.idiv, 1) := by decide +kernel
theorem dX8_pay_35 : decode cX8_pay 35 = .ok (.iadd, 1) := by decide +kernel
theorem dX8_pay_36 : decode cX8_pay 36 = .ok (.invokestatic 66, 3) := by decide +kernel
theorem dX8_pay_39 : decode cX8_pay 39 = .ok (.putfield 169, 3) := by decide +kernel
theorem dX8_pay_42 : decode cX8_pay 42 = .ok (.return_, 1) := by decide +kernel
def f_X8_pay (a1 : Nat) (x2 : Int32) (S : Hp) : Option Hp :=
  ldP yH S 50 0 2 (fun p1 => ob2 (f_J9_max_7cf53 (0 : Int32) (((S.1 a1 1) + (S.1 p1 0)) - x2) S) (fun r2 S2 => ldP yH S2 50 0 2 (fun p3 => ob2 (f_J9_min_7cf53 (99999 : Int32) (r2 + ((r2 * (S2.1 p3 2)) / (100 : Int32))) S2) (fun r4 S4 => le1 (ho_sI S4 a1 1 r4) (fun S5 => some S5)))))
set_option maxHeartbeats 4000000 in
set_option maxRecDepth 100000 in
theorem c_X8_pay (l : Launch) (E : Ev) (a1 : Nat) (x2 : Int32) (ha1 : a1 ∈ yH.1 ∧ yH.2.1 a1 = (1, 9)) (S : Hp) (r : Hp) (h : f_X8_pay a1 x2 S = some r) : ho_M l yH E yX8_pay cX8_pay 4 none 1 [.ref (E.2.1 50), .ref (E.2.1 a1), .int x2] S (none, r) := by
  refine ho_in (by decide) (Nat.le_of_ble_eq_true rfl) ?_
  intro p e s m args below meth c C hR ls hl
  have C : ho_I p s m args meth c RX8 cX8_pay 4 none := C
  have hl : lv_has ls 4 [(0, .ref (E.2.1 50)), (1, .ref (E.2.1 a1)), (2, .int x2)] := hl
  unfold f_X8_pay at h
  refine lv_iconst (v := (0 : Int32)) C.1 C.2.1 dX8_pay_0 (by decide) ?_
  refine lv_aload_n C.1 C.2.1 dX8_pay_1 rfl (lv_at hl 1 rfl) ?_
  refine ho_getI C cf9 fH_RX8_169 hR ha1 dX8_pay_2 ?_
  refine lv_aload_n C.1 C.2.1 dX8_pay_5 rfl (lv_at hl 0 rfl) ?_
  obtain ⟨p1, e1, hp1, h⟩ := ldP_ok h
  refine hr_getP C cf8 fH_RX8_36 hR aH_50 e1 dX8_pay_6 ?_
  refine ho_getI C cf2 fH_RX8_133 hR hp1 dX8_pay_9 ?_
  refine lv_iadd C.1 C.2.1 dX8_pay_12 ?_
  refine lv_iload_n C.1 C.2.1 dX8_pay_13 rfl (lv_at hl 2 rfl) ?_
  refine lv_isub C.1 C.2.1 dX8_pay_14 ?_
  obtain ⟨r2, S2, h2, h⟩ := ob2_ok h
  refine hr_Si (v := r2) (S' := S2) (As := [.int (0 : Int32), .int (((S.1 a1 1) + (S.1 p1 0)) - x2)]) (rest := []) C (c_J9_max_7cf53 l E (0 : Int32) (((S.1 a1 1) + (S.1 p1 0)) - x2) _ _ h2) ys_J9_max_7cf53 lk_RX8_72 rfl rfl hl.1 (Nat.le_of_ble_eq_true rfl) (by decide) (by decide) hR (ho_A hR) dX8_pay_15 (fun H locs hR => ?_)
  refine lv_istore_n (lv' := [(3, .int r2), (0, .ref (E.2.1 50)), (1, .ref (E.2.1 a1)), (2, .int x2)]) C.1 C.2.1 dX8_pay_18 rfl hl (by decide) rfl (fun ls hl => ?_)
  refine lv_aload_n C.1 C.2.1 dX8_pay_19 rfl (lv_at hl 2 rfl) ?_
  refine lv_ldc (v := (99999 : Int32)) C.1 C.2.1 C.2.2.2.2.1 (C.2.2.2.2.2.1 _ kc_RX8_172) dX8_pay_20 ?_
  refine lv_iload_n C.1 C.2.1 dX8_pay_22 rfl (lv_at hl 0 rfl) ?_
  refine lv_iload_n C.1 C.2.1 dX8_pay_23 rfl (lv_at hl 0 rfl) ?_
  refine lv_aload_n C.1 C.2.1 dX8_pay_24 rfl (lv_at hl 1 rfl) ?_
  obtain ⟨p3, e3, hp3, h⟩ := ldP_ok h
  refine hr_getP C cf8 fH_RX8_36 hR aH_50 e3 dX8_pay_25 ?_
  refine ho_getI C cf2 fH_RX8_173 hR hp3 dX8_pay_28 ?_
  refine lv_imul C.1 C.2.1 dX8_pay_31 ?_
  refine lv_bipush (v := (100 : Int32)) C.1 C.2.1 dX8_pay_32 (by decide) ?_
  refine lv_idiv C.1 C.2.1 dX8_pay_34 (by decide) ?_
  refine lv_iadd C.1 C.2.1 dX8_pay_35 ?_
  obtain ⟨r4, S4, h4, h⟩ := ob2_ok h
  refine hr_Si (v := r4) (S' := S4) (As := [.int (99999 : Int32), .int (r2 + ((r2 * (S2.1 p3 2)) / (100 : Int32)))]) (rest := [.ref (E.2.1 a1)]) C (c_J9_min_7cf53 l E (99999 : Int32) (r2 + ((r2 * (S2.1 p3 2)) / (100 : Int32))) _ _ h4) ys_J9_min_7cf53 lk_RX8_66 rfl rfl hl.1 (Nat.le_of_ble_eq_true rfl) (by decide) (by decide) hR (ho_A hR) dX8_pay_36 (fun H locs hR => ?_)
  obtain ⟨S5, e5, h⟩ := le1_ok h
  refine hr_putI C cf9 fH_RX8_169 hR ha1 e5 dX8_pay_39 (fun H locs hR => ?_)
  exact ho_vret C hR h dX8_pay_42
theorem dX8_give_0 : decode cX8_give 0 = .ok (.aload_n 0, 1) := by decide +kernel
theorem dX8_give_1 : decode cX8_give 1 = .ok (.aload_n 1, 1) := by decide +kernel
theorem dX8_give_2 : decode cX8_give 2 = .ok (.iload_n 2, 1) := by decide +kernel
theorem dX8_give_3 : decode cX8_give 3 = .ok (.invokevirtual 121, 3) := by decide +kernel
theorem dX8_give_6 : decode cX8_give 6 = .ok (.istore 4, 2) := by decide +kernel
theorem dX8_give_8 : decode cX8_give 8 = .ok (.aload_n 0, 1) := by decide +kernel
theorem dX8_give_9 : decode cX8_give 9 = .ok (.getfield 15, 3) := by decide +kernel
theorem dX8_give_12 : decode cX8_give 12 = .ok (.iconst 0, 1) := by decide +kernel
theorem dX8_give_13 : decode cX8_give 13 = .ok (.aload_n 1, 1) := by decide +kernel
theorem dX8_give_14 : decode cX8_give 14 = .ok (.getfield 99, 3) := by decide +kernel
theorem dX8_give_17 : decode cX8_give 17 = .ok (.iconst 0, 1) := by decide +kernel
theorem dX8_give_18 : decode cX8_give 18 = .ok (.bipush 6, 2) := by decide +kernel
theorem dX8_give_20 : decode cX8_give 20 = .ok (.invokestatic 115, 3) := by decide +kernel
theorem dX8_give_23 : decode cX8_give 23 = .ok (.iconst 0, 1) := by decide +kernel
theorem dX8_give_24 : decode cX8_give 24 = .ok (.istore 5, 2) := by decide +kernel
theorem dX8_give_26 : decode cX8_give 26 = .ok (.iconst 0, 1) := by decide +kernel
theorem dX8_give_27 : decode cX8_give 27 = .ok (.istore 6, 2) := by decide +kernel
theorem dX8_give_29 : decode cX8_give 29 = .ok (.iload 6, 2) := by decide +kernel
theorem dX8_give_31 : decode cX8_give 31 = .ok (.aload_n 0, 1) := by decide +kernel
theorem dX8_give_32 : decode cX8_give 32 = .ok (.getfield 36, 3) := by decide +kernel
theorem dX8_give_35 : decode cX8_give 35 = .ok (.getfield 75, 3) := by decide +kernel
theorem dX8_give_38 : decode cX8_give 38 = .ok (.iconst 1, 1) := by decide +kernel
theorem dX8_give_39 : decode cX8_give 39 = .ok (.iaload, 1) := by decide +kernel
theorem dX8_give_40 : decode cX8_give 40 = .ok (.if_icmp .ge 87, 3) := by decide +kernel
theorem dX8_give_43 : decode cX8_give 43 = .ok (.iload_n 2, 1) := by decide +kernel
theorem dX8_give_44 : decode cX8_give 44 = .ok (.iload 6, 2) := by decide +kernel
theorem dX8_give_46 : decode cX8_give 46 = .ok (.ishr, 1) := by decide +kernel
theorem dX8_give_47 : decode cX8_give 47 = .ok (.iconst 1, 1) := by decide +kernel
theorem dX8_give_48 : decode cX8_give 48 = .ok (.iand, 1) := by decide +kernel
theorem dX8_give_49 : decode cX8_give 49 = .ok (.iconst 1, 1) := by decide +kernel
theorem dX8_give_50 : decode cX8_give 50 = .ok (.if_icmp .ne 71, 3) := by decide +kernel
theorem dX8_give_53 : decode cX8_give 53 = .ok (.aload_n 1, 1) := by decide +kernel
theorem dX8_give_54 : decode cX8_give 54 = .ok (.getfield 96, 3) := by decide +kernel
theorem dX8_give_57 : decode cX8_give 57 = .ok (.iload 6, 2) := by decide +kernel
theorem dX8_give_59 : decode cX8_give 59 = .ok (.sipush 999, 3) := by decide +kernel
theorem dX8_give_62 : decode cX8_give 62 = .ok (.aload_n 1, 1) := by decide +kernel
theorem dX8_give_63 : decode cX8_give 63 = .ok (.getfield 96, 3) := by decide +kernel
theorem dX8_give_66 : decode cX8_give 66 = .ok (.iload 6, 2) := by decide +kernel
theorem dX8_give_68 : decode cX8_give 68 = .ok (.iaload, 1) := by decide +kernel
theorem dX8_give_69 : decode cX8_give 69 = .ok (.aload_n 3, 1) := by decide +kernel
theorem dX8_give_70 : decode cX8_give 70 = .ok (.iload 6, 2) := by decide +kernel
theorem dX8_give_72 : decode cX8_give 72 = .ok (.iaload, 1) := by decide +kernel
theorem dX8_give_73 : decode cX8_give 73 = .ok (.iadd, 1) := by decide +kernel
theorem dX8_give_74 : decode cX8_give 74 = .ok (.invokestatic 66, 3) := by decide +kernel
theorem dX8_give_77 : decode cX8_give 77 = .ok (.iastore, 1) := by decide +kernel
theorem dX8_give_78 : decode cX8_give 78 = .ok (.aload_n 1, 1) := by decide +kernel
theorem dX8_give_79 : decode cX8_give 79 = .ok (.getfield 47, 3) := by decide +kernel
theorem dX8_give_82 : decode cX8_give 82 = .ok (.iload 6, 2) := by decide +kernel
theorem dX8_give_84 : decode cX8_give 84 = .ok (.sipush 9999, 3) := by decide +kernel
theorem dX8_give_87 : decode cX8_give 87 = .ok (.aload_n 1, 1) := by decide +kernel
theorem dX8_give_88 : decode cX8_give 88 = .ok (.getfield 47, 3) := by decide +kernel
theorem dX8_give_91 : decode cX8_give 91 = .ok (.iload 6, 2) := by decide +kernel
theorem dX8_give_93 : decode cX8_give 93 = .ok (.iaload, 1) := by decide +kernel
theorem dX8_give_94 : decode cX8_give 94 = .ok (.iconst 1, 1) := by decide +kernel
theorem dX8_give_95 : decode cX8_give 95 = .ok (.iadd, 1) := by decide +kernel
theorem dX8_give_96 : decode cX8_give 96 = .ok (.invokestatic 66, 3) := by decide +kernel
theorem dX8_give_99 : decode cX8_give 99 = .ok (.iastore, 1) := by decide +kernel
theorem dX8_give_100 : decode cX8_give 100 = .ok (.aload_n 1, 1) := by decide +kernel
theorem dX8_give_101 : decode cX8_give 101 = .ok (.getfield 96, 3) := by decide +kernel
theorem dX8_give_104 : decode cX8_give 104 = .ok (.iload 6, 2) := by decide +kernel
theorem dX8_give_106 : decode cX8_give 106 = .ok (.iaload, 1) := by decide +kernel
theorem dX8_give_107 : decode cX8_give 107 = .ok (.bipush 100, 2) := by decide +kernel
theorem dX8_give_109 : decode cX8_give 109 = .ok (.if_icmp .lt 12, 3) := by decide +kernel
theorem dX8_give_112 : decode cX8_give 112 = .ok (.iload 5, 2) := by decide +kernel
theorem dX8_give_114 : decode cX8_give 114 = .ok (.iconst 1, 1) := by decide +kernel
theorem dX8_give_115 : decode cX8_give 115 = .ok (.iload 6, 2) := by decide +kernel
theorem dX8_give_117 : decode cX8_give 117 = .ok (.ishl, 1) := by decide +kernel
theorem dX8_give_118 : decode cX8_give 118 = .ok (.ior, 1) := by decide +kernel
theorem dX8_give_119 : decode cX8_give 119 = .ok (.istore 5, 2) := by decide +kernel
theorem dX8_give_121 : decode cX8_give 121 = .ok (.iinc 6 1, 3) := by decide +kernel
theorem dX8_give_124 : decode cX8_give 124 = .ok (.goto (-95), 3) := by decide +kernel
theorem dX8_give_127 : decode cX8_give 127 = .ok (.aload_n 0, 1) := by decide +kernel
theorem dX8_give_128 : decode cX8_give 128 = .ok (.aload_n 1, 1) := by decide +kernel
theorem dX8_give_129 : decode cX8_give 129 = .ok (.iload 5, 2) := by decide +kernel
theorem dX8_give_131 : decode cX8_give 131 = .ok (.invokevirtual 155, 3) := by decide +kernel
theorem dX8_give_134 : decode cX8_give 134 = .ok (.aload_n 0, 1) := by decide +kernel
theorem dX8_give_135 : decode cX8_give 135 = .ok (.aload_n 1, 1) := by decide +kernel
theorem dX8_give_136 : decode cX8_give 136 = .ok (.iload 4, 2) := by decide +kernel
theorem dX8_give_138 : decode cX8_give 138 = .ok (.invokevirtual 159, 3) := by decide +kernel
theorem dX8_give_141 : decode cX8_give 141 = .ok (.aload_n 1, 1) := by decide +kernel
theorem dX8_give_142 : decode cX8_give 142 = .ok (.sipush 999, 3) := by decide +kernel
theorem dX8_give_145 : decode cX8_give 145 = .ok (.aload_n 1, 1) := by decide +kernel
theorem dX8_give_146 : decode cX8_give 146 = .ok (.getfield 52, 3) := by decide +kernel
theorem dX8_give_149 : decode cX8_give 149 = .ok (.iconst 1, 1) := by decide +kernel
theorem dX8_give_150 : decode cX8_give 150 = .ok (.iadd, 1) := by decide +kernel
theorem dX8_give_151 : decode cX8_give 151 = .ok (.invokestatic 66, 3) := by decide +kernel
theorem dX8_give_154 : decode cX8_give 154 = .ok (.putfield 52, 3) := by decide +kernel
theorem dX8_give_157 : decode cX8_give 157 = .ok (.iload 4, 2) := by decide +kernel
theorem dX8_give_159 : decode cX8_give 159 = .ok (.ireturn, 1) := by decide +kernel
def f_X8_give_121 (K29 : Int32 → Int32 → Int32 → Int32 → Hp → Option (Int32 × Hp)) (a1 : Nat) (w3 n3 : Nat) (x2 : Int32) (x4 : Int32) (x5 : Int32) (x6 : Int32) (S : Hp) : Option (Int32 × Hp) :=
  le1 (x6 + (1 : Int32)) (fun v1 => K29 x2 x4 x5 v1 S)
set_option maxHeartbeats 4000000 in
set_option maxRecDepth 100000 in
theorem w_X8_give_121 {p : Program} {l : Launch} {e : Env} {s : State} {m : MethodId} {args : Array Value} {below : List Frame} {meth : Method} {c : Code} {E : Ev} {S0 : Hp} {r : (Int32 × Hp)} (C : ho_I p s m args meth c RX8 cX8_give 7 (some .int)) (K29 : Int32 → Int32 → Int32 → Int32 → Hp → Option (Int32 × Hp)) (a1 : Nat) (w3 n3 : Nat) (ha1 : a1 ∈ yH.1 ∧ yH.2.1 a1 = (1, 9)) (hw3 : w3 ∈ yH.1 ∧ yH.2.1 w3 = (4, n3)) (hK29 : ∀ (y2 : Int32) (y4 : Int32) (y5 : Int32) (y6 : Int32) (S : Hp), K29 y2 y4 y5 y6 S = some r → ho_G p l e s m args below meth c yH E S0 4 7 (some (.int r.1), r.2) 29 [(0, .ref (E.2.1 50)), (1, .ref (E.2.1 a1)), (2, .int y2), (3, .ref (E.2.1 w3)), (4, .int y4), (5, .int y5), (6, .int y6)] [] S) :
    ∀ (x2 : Int32) (x4 : Int32) (x5 : Int32) (x6 : Int32) (S : Hp), f_X8_give_121 K29 a1 w3 n3 x2 x4 x5 x6 S = some r → ho_G p l e s m args below meth c yH E S0 4 7 (some (.int r.1), r.2) 121 [(0, .ref (E.2.1 50)), (1, .ref (E.2.1 a1)), (2, .int x2), (3, .ref (E.2.1 w3)), (4, .int x4), (5, .int x5), (6, .int x6)] [] S := by
  intro x2 x4 x5 x6 S h H locs ls hR hl
  unfold f_X8_give_121 at h
  obtain ⟨v1, e1, h⟩ := le1_ok h
  refine lv_iinc (v := v1) (lv' := [(6, .int v1), (0, .ref (E.2.1 50)), (1, .ref (E.2.1 a1)), (2, .int x2), (3, .ref (E.2.1 w3)), (4, .int x4), (5, .int x5)]) C.1 C.2.1 dX8_give_121 hl (k := 6) rfl (by rw [e1]; rfl) (by decide) rfl (fun ls hl => ?_)
  refine lv_goto (tgt := 29) C.1 C.2.1 dX8_give_124 (by decide) ?_
  exact hK29 x2 x4 x5 v1 S h _ _ _ hR (lv_sub hl [1, 2, 3, 4, 5, 6, 0] rfl)
def f_X8_give_29 (a1 : Nat) (w3 n3 : Nat) : Nat → Int32 → Int32 → Int32 → Int32 → Hp → Option (Int32 × Hp)
  | 0, _, _, _, _, _ => none
  | k + 1, x2, x4, x5, x6, S => ldP yH S 50 0 2 (fun p1 => ldI S (p1 + 1) 3 (1 : Int32) (fun v2 => if v2 ≤ x6 then ob (f_X8_loseBelief a1 x5 S) (fun S3 => ob (f_X8_pay a1 x4 S3) (fun S4 => ob2 (f_J9_min_7cf53 (999 : Int32) ((S4.1 a1 0) + (1 : Int32)) S4) (fun r5 S5 => le1 (ho_sI S5 a1 0 r5) (fun S6 => some (x4, S6))))) else if ((x2 >>> (x6 &&& 31)) &&& (1 : Int32)) = (1 : Int32) then ldI S (a1 + 3) 6 x6 (fun v7 => ldI S w3 n3 x6 (fun v8 => ob2 (f_J9_min_7cf53 (999 : Int32) (v7 + v8) S) (fun r9 S9 => stI S9 (a1 + 3) 6 x6 r9 (fun S10 => ldI S10 (a1 + 2) 6 x6 (fun v11 => ob2 (f_J9_min_7cf53 (9999 : Int32) (v11 + (1 : Int32)) S10) (fun r12 S12 => stI S12 (a1 + 2) 6 x6 r12 (fun S13 => ldI S13 (a1 + 3) 6 x6 (fun v14 => if v14 < (100 : Int32) then f_X8_give_121 (f_X8_give_29 a1 w3 n3 k) a1 w3 n3 x2 x4 x5 x6 S13 else le1 (x5 ||| ((1 : Int32) <<< (x6 &&& 31))) (fun v15 => f_X8_give_121 (f_X8_give_29 a1 w3 n3 k) a1 w3 n3 x2 x4 v15 x6 S13))))))))) else f_X8_give_121 (f_X8_give_29 a1 w3 n3 k) a1 w3 n3 x2 x4 x5 x6 S))
set_option maxHeartbeats 4000000 in
set_option maxRecDepth 100000 in
theorem w_X8_give_29 {p : Program} {l : Launch} {e : Env} {s : State} {m : MethodId} {args : Array Value} {below : List Frame} {meth : Method} {c : Code} {E : Ev} {S0 : Hp} {r : (Int32 × Hp)} (C : ho_I p s m args meth c RX8 cX8_give 7 (some .int)) (a1 : Nat) (w3 n3 : Nat) (ha1 : a1 ∈ yH.1 ∧ yH.2.1 a1 = (1, 9)) (hw3 : w3 ∈ yH.1 ∧ yH.2.1 w3 = (4, n3)) :
    ∀ (k : Nat) (x2 : Int32) (x4 : Int32) (x5 : Int32) (x6 : Int32) (S : Hp), f_X8_give_29 a1 w3 n3 k x2 x4 x5 x6 S = some r → ho_G p l e s m args below meth c yH E S0 4 7 (some (.int r.1), r.2) 29 [(0, .ref (E.2.1 50)), (1, .ref (E.2.1 a1)), (2, .int x2), (3, .ref (E.2.1 w3)), (4, .int x4), (5, .int x5), (6, .int x6)] [] S := by
  intro k
  induction k with
  | zero =>
    intro x2 x4 x5 x6 S h
    exact absurd (show (none : Option (Int32 × Hp)) = some r from h) (by simp)
  | succ k ih =>
    intro x2 x4 x5 x6 S h H locs ls hR hl
    rw [f_X8_give_29] at h
    refine lv_iload C.1 C.2.1 dX8_give_29 (lv_at hl 6 rfl) ?_
    refine lv_aload_n C.1 C.2.1 dX8_give_31 rfl (lv_at hl 0 rfl) ?_
    obtain ⟨p1, e1, hp1, h⟩ := ldP_ok h
    refine hr_getP C cf8 fH_RX8_36 hR aH_50 e1 dX8_give_32 ?_
    refine ho_getR (a' := (p1 + 1)) C cf2 fH_RX8_75 hR hp1 (pH_2_5 hp1.2) dX8_give_35 ?_
    refine lv_iconst (v := (1 : Int32)) C.1 C.2.1 dX8_give_38 (by decide) ?_
    obtain ⟨v2, e2, hi2, h⟩ := ldI_ok h
    refine hr_ild C hR (rH_2_1 hp1) hi2 e2 dX8_give_39 ?_
    refine lv_icmp_ge (tgt := 127) C.1 C.2.1 dX8_give_40 (by decide) (fun hc => ?_) (fun hc => ?_)
    · replace h := if_t h hc
      refine lv_aload_n C.1 C.2.1 dX8_give_127 rfl (lv_at hl 0 rfl) ?_
      refine lv_aload_n C.1 C.2.1 dX8_give_128 rfl (lv_at hl 1 rfl) ?_
      refine lv_iload C.1 C.2.1 dX8_give_129 (lv_at hl 5 rfl) ?_
      obtain ⟨S3, h3, h⟩ := ob_ok h
      refine hr_Vv (S' := S3) (As := [.ref (E.2.1 a1), .int x5]) (rest := []) C cf8 (c_X8_loseBelief l E a1 x5 ha1 _ _ h3) yv_X8_loseBelief lk_RX8_155 rfl aH_50 rfl rfl hl.1 (Nat.le_of_ble_eq_true rfl) (by decide) (by decide) hR (ho_A hR) dX8_give_131 (fun H locs hR => ?_)
      refine lv_aload_n C.1 C.2.1 dX8_give_134 rfl (lv_at hl 0 rfl) ?_
      refine lv_aload_n C.1 C.2.1 dX8_give_135 rfl (lv_at hl 1 rfl) ?_
      refine lv_iload C.1 C.2.1 dX8_give_136 (lv_at hl 4 rfl) ?_
      obtain ⟨S4, h4, h⟩ := ob_ok h
      refine hr_Vv (S' := S4) (As := [.ref (E.2.1 a1), .int x4]) (rest := []) C cf8 (c_X8_pay l E a1 x4 ha1 _ _ h4) yv_X8_pay lk_RX8_159 rfl aH_50 rfl rfl hl.1 (Nat.le_of_ble_eq_true rfl) (by decide) (by decide) hR (ho_A hR) dX8_give_138 (fun H locs hR => ?_)
      refine lv_aload_n C.1 C.2.1 dX8_give_141 rfl (lv_at hl 1 rfl) ?_
      refine lv_sipush (v := (999 : Int32)) C.1 C.2.1 dX8_give_142 (by decide) ?_
      refine lv_aload_n C.1 C.2.1 dX8_give_145 rfl (lv_at hl 1 rfl) ?_
      refine ho_getI C cf9 fH_RX8_52 hR ha1 dX8_give_146 ?_
      refine lv_iconst (v := (1 : Int32)) C.1 C.2.1 dX8_give_149 (by decide) ?_
      refine lv_iadd C.1 C.2.1 dX8_give_150 ?_
      obtain ⟨r5, S5, h5, h⟩ := ob2_ok h
      refine hr_Si (v := r5) (S' := S5) (As := [.int (999 : Int32), .int ((S4.1 a1 0) + (1 : Int32))]) (rest := [.ref (E.2.1 a1)]) C (c_J9_min_7cf53 l E (999 : Int32) ((S4.1 a1 0) + (1 : Int32)) _ _ h5) ys_J9_min_7cf53 lk_RX8_66 rfl rfl hl.1 (Nat.le_of_ble_eq_true rfl) (by decide) (by decide) hR (ho_A hR) dX8_give_151 (fun H locs hR => ?_)
      obtain ⟨S6, e6, h⟩ := le1_ok h
      refine hr_putI C cf9 fH_RX8_52 hR ha1 e6 dX8_give_154 (fun H locs hR => ?_)
      refine lv_iload C.1 C.2.1 dX8_give_157 (lv_at hl 4 rfl) ?_
      exact ho_iret C hR h dX8_give_159
    · replace h := if_f h hc
      refine lv_iload_n C.1 C.2.1 dX8_give_43 rfl (lv_at hl 2 rfl) ?_
      refine lv_iload C.1 C.2.1 dX8_give_44 (lv_at hl 6 rfl) ?_
      refine lv_ishr C.1 C.2.1 dX8_give_46 ?_
      refine lv_iconst (v := (1 : Int32)) C.1 C.2.1 dX8_give_47 (by decide) ?_
      refine lv_iand C.1 C.2.1 dX8_give_48 ?_
      refine lv_iconst (v := (1 : Int32)) C.1 C.2.1 dX8_give_49 (by decide) ?_
      refine lv_icmp_ne (tgt := 121) C.1 C.2.1 dX8_give_50 (by decide) (fun hc => ?_) (fun hc => ?_)
      · replace h := if_f h hc
        exact w_X8_give_121 C (f_X8_give_29 a1 w3 n3 k) a1 w3 n3 ha1 hw3 ih x2 x4 x5 x6 S h _ _ _ hR (lv_sub hl [0, 1, 2, 3, 4, 5, 6] rfl)
      · replace h := if_t h hc
        refine lv_aload_n C.1 C.2.1 dX8_give_53 rfl (lv_at hl 1 rfl) ?_
        refine ho_getR (a' := (a1 + 3)) C cf9 fH_RX8_96 hR ha1 (pH_9_5 ha1.2) dX8_give_54 ?_
        refine lv_iload C.1 C.2.1 dX8_give_57 (lv_at hl 6 rfl) ?_
        refine lv_sipush (v := (999 : Int32)) C.1 C.2.1 dX8_give_59 (by decide) ?_
        refine lv_aload_n C.1 C.2.1 dX8_give_62 rfl (lv_at hl 1 rfl) ?_
        refine ho_getR (a' := (a1 + 3)) C cf9 fH_RX8_96 hR ha1 (pH_9_5 ha1.2) dX8_give_63 ?_
        refine lv_iload C.1 C.2.1 dX8_give_66 (lv_at hl 6 rfl) ?_
        obtain ⟨v7, e7, hi7, h⟩ := ldI_ok h
        refine hr_ild C hR (rH_9_3 ha1) hi7 e7 dX8_give_68 ?_
        refine lv_aload_n C.1 C.2.1 dX8_give_69 rfl (lv_at hl 3 rfl) ?_
        refine lv_iload C.1 C.2.1 dX8_give_70 (lv_at hl 6 rfl) ?_
        obtain ⟨v8, e8, hi8, h⟩ := ldI_ok h
        refine hr_ild C hR hw3 hi8 e8 dX8_give_72 ?_
        refine lv_iadd C.1 C.2.1 dX8_give_73 ?_
        obtain ⟨r9, S9, h9, h⟩ := ob2_ok h
        refine hr_Si (v := r9) (S' := S9) (As := [.int (999 : Int32), .int (v7 + v8)]) (rest := [.int x6, .ref (E.2.1 (a1 + 3))]) C (c_J9_min_7cf53 l E (999 : Int32) (v7 + v8) _ _ h9) ys_J9_min_7cf53 lk_RX8_66 rfl rfl hl.1 (Nat.le_of_ble_eq_true rfl) (by decide) (by decide) hR (ho_A hR) dX8_give_74 (fun H locs hR => ?_)
        obtain ⟨S10, e10, hi10, h⟩ := stI_ok h
        refine hr_ist C hR (rH_9_3 ha1) hi10 e10 dX8_give_77 (fun H locs hR => ?_)
        refine lv_aload_n C.1 C.2.1 dX8_give_78 rfl (lv_at hl 1 rfl) ?_
        refine ho_getR (a' := (a1 + 2)) C cf9 fH_RX8_47 hR ha1 (pH_9_4 ha1.2) dX8_give_79 ?_
        refine lv_iload C.1 C.2.1 dX8_give_82 (lv_at hl 6 rfl) ?_
        refine lv_sipush (v := (9999 : Int32)) C.1 C.2.1 dX8_give_84 (by decide) ?_
        refine lv_aload_n C.1 C.2.1 dX8_give_87 rfl (lv_at hl 1 rfl) ?_
        refine ho_getR (a' := (a1 + 2)) C cf9 fH_RX8_47 hR ha1 (pH_9_4 ha1.2) dX8_give_88 ?_
        refine lv_iload C.1 C.2.1 dX8_give_91 (lv_at hl 6 rfl) ?_
        obtain ⟨v11, e11, hi11, h⟩ := ldI_ok h
        refine hr_ild C hR (rH_9_2 ha1) hi11 e11 dX8_give_93 ?_
        refine lv_iconst (v := (1 : Int32)) C.1 C.2.1 dX8_give_94 (by decide) ?_
        refine lv_iadd C.1 C.2.1 dX8_give_95 ?_
        obtain ⟨r12, S12, h12, h⟩ := ob2_ok h
        refine hr_Si (v := r12) (S' := S12) (As := [.int (9999 : Int32), .int (v11 + (1 : Int32))]) (rest := [.int x6, .ref (E.2.1 (a1 + 2))]) C (c_J9_min_7cf53 l E (9999 : Int32) (v11 + (1 : Int32)) _ _ h12) ys_J9_min_7cf53 lk_RX8_66 rfl rfl hl.1 (Nat.le_of_ble_eq_true rfl) (by decide) (by decide) hR (ho_A hR) dX8_give_96 (fun H locs hR => ?_)
        obtain ⟨S13, e13, hi13, h⟩ := stI_ok h
        refine hr_ist C hR (rH_9_2 ha1) hi13 e13 dX8_give_99 (fun H locs hR => ?_)
        refine lv_aload_n C.1 C.2.1 dX8_give_100 rfl (lv_at hl 1 rfl) ?_
        refine ho_getR (a' := (a1 + 3)) C cf9 fH_RX8_96 hR ha1 (pH_9_5 ha1.2) dX8_give_101 ?_
        refine lv_iload C.1 C.2.1 dX8_give_104 (lv_at hl 6 rfl) ?_
        obtain ⟨v14, e14, hi14, h⟩ := ldI_ok h
        refine hr_ild C hR (rH_9_3 ha1) hi14 e14 dX8_give_106 ?_
        refine lv_bipush (v := (100 : Int32)) C.1 C.2.1 dX8_give_107 (by decide) ?_
        refine lv_icmp_lt (tgt := 121) C.1 C.2.1 dX8_give_109 (by decide) (fun hc => ?_) (fun hc => ?_)
        · replace h := if_t h hc
          exact w_X8_give_121 C (f_X8_give_29 a1 w3 n3 k) a1 w3 n3 ha1 hw3 ih x2 x4 x5 x6 S13 h _ _ _ hR (lv_sub hl [0, 1, 2, 3, 4, 5, 6] rfl)
        · replace h := if_f h hc
          refine lv_iload C.1 C.2.1 dX8_give_112 (lv_at hl 5 rfl) ?_
          refine lv_iconst (v := (1 : Int32)) C.1 C.2.1 dX8_give_114 (by decide) ?_
          refine lv_iload C.1 C.2.1 dX8_give_115 (lv_at hl 6 rfl) ?_
          refine lv_ishl C.1 C.2.1 dX8_give_117 ?_
          refine lv_ior C.1 C.2.1 dX8_give_118 ?_
          refine lv_topi (fun v15 e15 => ?_)
          replace h := le1_at e15 h
          refine lv_istore (lv' := [(5, .int v15), (0, .ref (E.2.1 50)), (1, .ref (E.2.1 a1)), (2, .int x2), (3, .ref (E.2.1 w3)), (4, .int x4), (6, .int x6)]) C.1 C.2.1 dX8_give_119 hl (by decide) rfl (fun ls hl => ?_)
          exact w_X8_give_121 C (f_X8_give_29 a1 w3 n3 k) a1 w3 n3 ha1 hw3 ih x2 x4 v15 x6 S13 h _ _ _ hR (lv_sub hl [1, 2, 3, 4, 5, 0, 6] rfl)
def f_X8_give (a1 : Nat) (x2 : Int32) (w3 : Nat) (n3 : Nat) (S : Hp) : Option (Int32 × Hp) :=
  ob2 (f_X8_takeAll a1 x2 S) (fun r1 S1 => cpI S1 52 6 (0 : Int32) (a1 + 1) 6 (0 : Int32) (6 : Int32) (fun S2 => f_X8_give_29 a1 w3 n3 5000 x2 r1 (0 : Int32) (0 : Int32) S2))
set_option maxHeartbeats 4000000 in
set_option maxRecDepth 100000 in
theorem c_X8_give (l : Launch) (E : Ev) (a1 : Nat) (x2 : Int32) (w3 : Nat) (n3 : Nat) (ha1 : a1 ∈ yH.1 ∧ yH.2.1 a1 = (1, 9)) (hw3 : w3 ∈ yH.1 ∧ yH.2.1 w3 = (4, n3)) (S : Hp) (r : (Int32 × Hp)) (h : f_X8_give a1 x2 w3 n3 S = some r) : ho_M l yH E yX8_give cX8_give 7 (some .int) 4 [.ref (E.2.1 50), .ref (E.2.1 a1), .int x2, .ref (E.2.1 w3)] S (some (.int r.1), r.2) := by
  refine ho_in (by decide) (Nat.le_of_ble_eq_true rfl) ?_
  intro p e s m args below meth c C hR ls hl
  have C : ho_I p s m args meth c RX8 cX8_give 7 (some .int) := C
  have hl : lv_has ls 7 [(0, .ref (E.2.1 50)), (1, .ref (E.2.1 a1)), (2, .int x2), (3, .ref (E.2.1 w3))] := hl
  unfold f_X8_give at h
  refine lv_aload_n C.1 C.2.1 dX8_give_0 rfl (lv_at hl 0 rfl) ?_
  refine lv_aload_n C.1 C.2.1 dX8_give_1 rfl (lv_at hl 1 rfl) ?_
  refine lv_iload_n C.1 C.2.1 dX8_give_2 rfl (lv_at hl 2 rfl) ?_
  obtain ⟨r1, S1, h1, h⟩ := ob2_ok h
  refine hr_Vi (v := r1) (S' := S1) (As := [.ref (E.2.1 a1), .int x2]) (rest := []) C cf8 (c_X8_takeAll l E a1 x2 ha1 _ _ h1) yv_X8_takeAll lk_RX8_121 rfl aH_50 rfl rfl hl.1 (Nat.le_of_ble_eq_true rfl) (by decide) (by decide) hR (ho_A hR) dX8_give_3 (fun H locs hR => ?_)
  refine lv_istore (lv' := [(4, .int r1), (0, .ref (E.2.1 50)), (1, .ref (E.2.1 a1)), (2, .int x2), (3, .ref (E.2.1 w3))]) C.1 C.2.1 dX8_give_6 hl (by decide) rfl (fun ls hl => ?_)
  refine lv_aload_n C.1 C.2.1 dX8_give_8 rfl (lv_at hl 1 rfl) ?_
  refine ho_getR (a' := 52) C cf8 fH_RX8_15 hR aH_50 rfl dX8_give_9 ?_
  refine lv_iconst (v := (0 : Int32)) C.1 C.2.1 dX8_give_12 (by decide) ?_
  refine lv_aload_n C.1 C.2.1 dX8_give_13 rfl (lv_at hl 2 rfl) ?_
  refine ho_getR (a' := (a1 + 1)) C cf9 fH_RX8_99 hR ha1 (pH_9_3 ha1.2) dX8_give_14 ?_
  refine lv_iconst (v := (0 : Int32)) C.1 C.2.1 dX8_give_17 (by decide) ?_
  refine lv_bipush (v := (6 : Int32)) C.1 C.2.1 dX8_give_18 (by decide) ?_
  obtain ⟨S2, e2, hh2, h⟩ := cpI_ok h
  refine hr_cpy C ac_RX8_115 hR aH_52 (rH_9_1 ha1) hh2 e2 hl.1 (Nat.le_of_ble_eq_true rfl) (by decide) dX8_give_20 (fun H locs hR => ?_)
  refine lv_iconst (v := (0 : Int32)) C.1 C.2.1 dX8_give_23 (by decide) ?_
  refine lv_istore (lv' := [(5, .int (0 : Int32)), (4, .int r1), (0, .ref (E.2.1 50)), (1, .ref (E.2.1 a1)), (2, .int x2), (3, .ref (E.2.1 w3))]) C.1 C.2.1 dX8_give_24 hl (by decide) rfl (fun ls hl => ?_)
  refine lv_iconst (v := (0 : Int32)) C.1 C.2.1 dX8_give_26 (by decide) ?_
  refine lv_istore (lv' := [(6, .int (0 : Int32)), (5, .int (0 : Int32)), (4, .int r1), (0, .ref (E.2.1 50)), (1, .ref (E.2.1 a1)), (2, .int x2), (3, .ref (E.2.1 w3))]) C.1 C.2.1 dX8_give_27 hl (by decide) rfl (fun ls hl => ?_)
  exact w_X8_give_29 C a1 w3 n3 ha1 hw3 5000 x2 r1 (0 : Int32) (0 : Int32) S2 h _ _ _ hR (lv_sub hl [3, 4, 5, 6, 2, 1, 0] rfl)
theorem dX8_passYear_0 : decode cX8_passYear 0 = .ok (.aload_n 0, 1) := by decide +kernel
theorem dX8_passYear_1 : decode cX8_passYear 1 = .ok (.aload_n 1, 1) := by decide +kernel
theorem dX8_passYear_2 : decode cX8_passYear 2 = .ok (.invokevirtual 141, 3) := by decide +kernel
theorem dX8_passYear_5 : decode cX8_passYear 5 = .ok (.aload_n 0, 1) := by decide +kernel
theorem dX8_passYear_6 : decode cX8_passYear 6 = .ok (.aload_n 1, 1) := by decide +kernel
theorem dX8_passYear_7 : decode cX8_passYear 7 = .ok (.invokevirtual 145, 3) := by decide +kernel
theorem dX8_passYear_10 : decode cX8_passYear 10 = .ok (.aload_n 0, 1) := by decide +kernel
theorem dX8_passYear_11 : decode cX8_passYear 11 = .ok (.aload_n 1, 1) := by decide +kernel
theorem dX8_passYear_12 : decode cX8_passYear 12 = .ok (.invokevirtual 148, 3) := by decide +kernel
theorem dX8_passYear_15 : decode cX8_passYear 15 = .ok (.aload_n 0, 1) := by decide +kernel
theorem dX8_passYear_16 : decode cX8_passYear 16 = .ok (.aload_n 1, 1) := by decide +kernel
theorem dX8_passYear_17 : decode cX8_passYear 17 = .ok (.aload_n 0, 1) := by decide +kernel
theorem dX8_passYear_18 : decode cX8_passYear 18 = .ok (.getfield 18, 3) := by decide +kernel
theorem dX8_passYear_21 : decode cX8_passYear 21 = .ok (.aload_n 0, 1) := by decide +kernel
theorem dX8_passYear_22 : decode cX8_passYear 22 = .ok (.getfield 9, 3) := by decide +kernel
theorem dX8_passYear_25 : decode cX8_passYear 25 = .ok (.invokevirtual 151, 3) := by decide +kernel
theorem dX8_passYear_28 : decode cX8_passYear 28 = .ok (.ireturn, 1) := by decide +kernel
def f_X8_passYear (a1 : Nat) (S : Hp) : Option (Int32 × Hp) :=
  ob (f_X8_ripen a1 S) (fun S1 => ob (f_X8_lookAtAll a1 S1) (fun S2 => ob (f_X8_choose a1 S2) (fun S3 => ob2 (f_X8_give a1 (S3.1 50 3) 51 6 S3) (fun r4 S4 => some (r4, S4)))))
set_option maxHeartbeats 4000000 in
set_option maxRecDepth 100000 in
theorem c_X8_passYear (l : Launch) (E : Ev) (a1 : Nat) (ha1 : a1 ∈ yH.1 ∧ yH.2.1 a1 = (1, 9)) (S : Hp) (r : (Int32 × Hp)) (h : f_X8_passYear a1 S = some r) : ho_M l yH E yX8_passYear cX8_passYear 2 (some .int) 5 [.ref (E.2.1 50), .ref (E.2.1 a1)] S (some (.int r.1), r.2) := by
  refine ho_in (by decide) (Nat.le_of_ble_eq_true rfl) ?_
  intro p e s m args below meth c C hR ls hl
  have C : ho_I p s m args meth c RX8 cX8_passYear 2 (some .int) := C
  have hl : lv_has ls 2 [(0, .ref (E.2.1 50)), (1, .ref (E.2.1 a1))] := hl
  unfold f_X8_passYear at h
  refine lv_aload_n C.1 C.2.1 dX8_passYear_0 rfl (lv_at hl 0 rfl) ?_
  refine lv_aload_n C.1 C.2.1 dX8_passYear_1 rfl (lv_at hl 1 rfl) ?_
  obtain ⟨S1, h1, h⟩ := ob_ok h
  refine hr_Vv (S' := S1) (As := [.ref (E.2.1 a1)]) (rest := []) C cf8 (c_X8_ripen l E a1 ha1 _ _ h1) yv_X8_ripen lk_RX8_141 rfl aH_50 rfl rfl hl.1 (Nat.le_of_ble_eq_true rfl) (by decide) (by decide) hR (ho_A hR) dX8_passYear_2 (fun H locs hR => ?_)
  refine lv_aload_n C.1 C.2.1 dX8_passYear_5 rfl (lv_at hl 0 rfl) ?_
  refine lv_aload_n C.1 C.2.1 dX8_passYear_6 rfl (lv_at hl 1 rfl) ?_
  obtain ⟨S2, h2, h⟩ := ob_ok h
  refine hr_Vv (S' := S2) (As := [.ref (E.2.1 a1)]) (rest := []) C cf8 (c_X8_lookAtAll l E a1 ha1 _ _ h2) yv_X8_lookAtAll lk_RX8_145 rfl aH_50 rfl rfl hl.1 (Nat.le_of_ble_eq_true rfl) (by decide) (by decide) hR (ho_A hR) dX8_passYear_7 (fun H locs hR => ?_)
  refine lv_aload_n C.1 C.2.1 dX8_passYear_10 rfl (lv_at hl 0 rfl) ?_
  refine lv_aload_n C.1 C.2.1 dX8_passYear_11 rfl (lv_at hl 1 rfl) ?_
  obtain ⟨S3, h3, h⟩ := ob_ok h
  refine hr_Vv (S' := S3) (As := [.ref (E.2.1 a1)]) (rest := []) C cf8 (c_X8_choose l E a1 ha1 _ _ h3) yv_X8_choose lk_RX8_148 rfl aH_50 rfl rfl hl.1 (Nat.le_of_ble_eq_true rfl) (by decide) (by decide) hR (ho_A hR) dX8_passYear_12 (fun H locs hR => ?_)
  refine lv_aload_n C.1 C.2.1 dX8_passYear_15 rfl (lv_at hl 0 rfl) ?_
  refine lv_aload_n C.1 C.2.1 dX8_passYear_16 rfl (lv_at hl 1 rfl) ?_
  refine lv_aload_n C.1 C.2.1 dX8_passYear_17 rfl (lv_at hl 0 rfl) ?_
  refine ho_getI C cf8 fH_RX8_18 hR aH_50 dX8_passYear_18 ?_
  refine lv_aload_n C.1 C.2.1 dX8_passYear_21 rfl (lv_at hl 0 rfl) ?_
  refine ho_getR (a' := 51) C cf8 fH_RX8_9 hR aH_50 rfl dX8_passYear_22 ?_
  obtain ⟨r4, S4, h4, h⟩ := ob2_ok h
  refine hr_Vi (v := r4) (S' := S4) (As := [.ref (E.2.1 a1), .int (S3.1 50 3), .ref (E.2.1 51)]) (rest := []) C cf8 (c_X8_give l E a1 (S3.1 50 3) 51 6 ha1 aH_51 _ _ h4) yv_X8_give lk_RX8_151 rfl aH_50 rfl rfl hl.1 (Nat.le_of_ble_eq_true rfl) (by decide) (by decide) hR (ho_A hR) dX8_passYear_25 (fun H locs hR => ?_)
  exact ho_iret C hR h dX8_passYear_28
theorem dX0_reach_0 : decode cX0_reach 0 = .ok (.iload_n 2, 1) := by decide +kernel
theorem dX0_reach_1 : decode cX0_reach 1 = .ok (.ifCond .lt 21, 3) := by decide +kernel
theorem dX0_reach_4 : decode cX0_reach 4 = .ok (.iload_n 2, 1) := by decide +kernel
theorem dX0_reach_5 : decode cX0_reach 5 = .ok (.bipush 60, 2) := by decide +kernel
theorem dX0_reach_7 : decode cX0_reach 7 = .ok (.if_icmp .gt 15, 3) := by decide +kernel
theorem dX0_reach_10 : decode cX0_reach 10 = .ok (.aload_n 1, 1) := by decide +kernel
theorem dX0_reach_11 : decode cX0_reach 11 = .ok (.getfield 67, 3) := by decide +kernel
theorem dX0_reach_14 : decode cX0_reach 14 = .ok (.iload_n 2, 1) := by decide +kernel
theorem dX0_reach_15 : decode cX0_reach 15 = .ok (.iadd, 1) := by decide +kernel
theorem dX0_reach_16 : decode cX0_reach 16 = .ok (.sipush 999, 3) := by decide +kernel
theorem dX0_reach_19 : decode cX0_reach 19 = .ok (.if_icmp .le 5, 3) := by decide +kernel
theorem dX0_reach_22 : decode cX0_reach 22 = .ok (.iconst 0, 1) := by decide +kernel
theorem dX0_reach_23 : decode cX0_reach 23 = .ok (.ireturn, 1) := by decide +kernel
theorem dX0_reach_24 : decode cX0_reach 24 = .ok (.aload_n 0, 1) := by decide +kernel
theorem dX0_reach_25 : decode cX0_reach 25 = .ok (.getfield 55, 3) := by decide +kernel
theorem dX0_reach_28 : decode cX0_reach 28 = .ok (.iconst (-1), 1) := by decide +kernel
theorem dX0_reach_29 : decode cX0_reach 29 = .ok (.if_icmp .ne 16, 3) := by decide +kernel
theorem dX0_reach_32 : decode cX0_reach 32 = .ok (.aload_n 0, 1) := by decide +kernel
theorem dX0_reach_33 : decode cX0_reach 33 = .ok (.getfield 30, 3) := by decide +kernel
theorem dX0_reach_36 : decode cX0_reach 36 = .ok (.aload_n 1, 1) := by decide +kernel
theorem dX0_reach_37 : decode cX0_reach 37 = .ok (.invokevirtual 70, 3) := by decide +kernel
theorem dX0_reach_40 : decode cX0_reach 40 = .ok (.aload_n 0, 1) := by decide +kernel
theorem dX0_reach_41 : decode cX0_reach 41 = .ok (.iconst 0, 1) := by decide +kernel
theorem dX0_reach_42 : decode cX0_reach 42 = .ok (.invokevirtual 74, 3) := by decide +kernel
theorem dX0_reach_45 : decode cX0_reach 45 = .ok (.aload_n 0, 1) := by decide +kernel
theorem dX0_reach_46 : decode cX0_reach 46 = .ok (.getfield 55, 3) := by decide +kernel
theorem dX0_reach_49 : decode cX0_reach 49 = .ok (.iconst 1, 1) := by decide +kernel
theorem dX0_reach_50 : decode cX0_reach 50 = .ok (.iadd, 1) := by decide +kernel
theorem dX0_reach_51 : decode cX0_reach 51 = .ok (.istore_n 3, 1) := by decide +kernel
theorem dX0_reach_52 : decode cX0_reach 52 = .ok (.iload_n 3, 1) := by decide +kernel
theorem dX0_reach_53 : decode cX0_reach 53 = .ok (.iload_n 2, 1) := by decide +kernel
theorem dX0_reach_54 : decode cX0_reach 54 = .ok (.if_icmp .gt 26, 3) := by decide +kernel
theorem dX0_reach_57 : decode cX0_reach 57 = .ok (.aload_n 0, 1) := by decide +kernel
theorem dX0_reach_58 : decode cX0_reach 58 = .ok (.getfield 63, 3) := by decide +kernel
theorem dX0_reach_61 : decode cX0_reach 61 = .ok (.aload_n 0, 1) := by decide +kernel
theorem dX0_reach_62 : decode cX0_reach 62 = .ok (.getfield 30, 3) := by decide +kernel
theorem dX0_reach_65 : decode cX0_reach 65 = .ok (.invokevirtual 78, 3) := by decide +kernel
theorem dX0_reach_68 : decode cX0_reach 68 = .ok (.pop, 1) := by decide +kernel
theorem dX0_reach_69 : decode cX0_reach 69 = .ok (.aload_n 0, 1) := by decide +kernel
theorem dX0_reach_70 : decode cX0_reach 70 = .ok (.iload_n 3, 1) := by decide +kernel
theorem dX0_reach_71 : decode cX0_reach 71 = .ok (.invokevirtual 74, 3) := by decide +kernel
theorem dX0_reach_74 : decode cX0_reach 74 = .ok (.iinc 3 1, 3) := by decide +kernel
theorem dX0_reach_77 : decode cX0_reach 77 = .ok (.goto (-25), 3) := by decide +kernel
theorem dX0_reach_80 : decode cX0_reach 80 = .ok (.iconst 1, 1) := by decide +kernel
theorem dX0_reach_81 : decode cX0_reach 81 = .ok (.ireturn, 1) := by decide +kernel
def f_X0_reach_52 (a1 : Nat) : Nat → Int32 → Int32 → Hp → Option (Int32 × Hp)
  | 0, _, _, _ => none
  | k + 1, x2, x3, S => if x2 < x3 then some ((1 : Int32), S) else ob2 (f_X8_passYear 1220 S) (fun r1 S1 => ob (f_X0_note x3 S1) (fun S2 => le1 (x3 + (1 : Int32)) (fun v3 => f_X0_reach_52 a1 k x2 v3 S2)))
set_option maxHeartbeats 4000000 in
set_option maxRecDepth 100000 in
theorem w_X0_reach_52 {p : Program} {l : Launch} {e : Env} {s : State} {m : MethodId} {args : Array Value} {below : List Frame} {meth : Method} {c : Code} {E : Ev} {S0 : Hp} {r : (Int32 × Hp)} (C : ho_I p s m args meth c RX0 cX0_reach 4 (some .boolean)) (a1 : Nat) (ha1 : a1 ∈ yH.1 ∧ yH.2.1 a1 = (1, 9)) :
    ∀ (k : Nat) (x2 : Int32) (x3 : Int32) (S : Hp), f_X0_reach_52 a1 k x2 x3 S = some r → ho_G p l e s m args below meth c yH E S0 6 4 (some (.int r.1), r.2) 52 [(0, .ref (E.2.1 60)), (2, .int x2), (3, .int x3)] [] S := by
  intro k
  induction k with
  | zero =>
    intro x2 x3 S h
    exact absurd (show (none : Option (Int32 × Hp)) = some r from h) (by simp)
  | succ k ih =>
    intro x2 x3 S h H locs ls hR hl
    rw [f_X0_reach_52] at h
    refine lv_iload_n C.1 C.2.1 dX0_reach_52 rfl (lv_at hl 2 rfl) ?_
    refine lv_iload_n C.1 C.2.1 dX0_reach_53 rfl (lv_at hl 1 rfl) ?_
    refine lv_icmp_gt (tgt := 80) C.1 C.2.1 dX0_reach_54 (by decide) (fun hc => ?_) (fun hc => ?_)
    · replace h := if_t h hc
      refine lv_iconst (v := (1 : Int32)) C.1 C.2.1 dX0_reach_80 (by decide) ?_
      exact ho_zret C hR (Or.inr rfl) h dX0_reach_81
    · replace h := if_f h hc
      refine lv_aload_n C.1 C.2.1 dX0_reach_57 rfl (lv_at hl 0 rfl) ?_
      refine ho_getR (a' := 50) C cf0 fH_RX0_63 hR aH_60 rfl dX0_reach_58 ?_
      refine lv_aload_n C.1 C.2.1 dX0_reach_61 rfl (lv_at hl 0 rfl) ?_
      refine ho_getR (a' := 1220) C cf0 fH_RX0_30 hR aH_60 rfl dX0_reach_62 ?_
      obtain ⟨r1, S1, h1, h⟩ := ob2_ok h
      refine hr_Vi (v := r1) (S' := S1) (As := [.ref (E.2.1 1220)]) (rest := []) C cf8 (c_X8_passYear l E 1220 aH_1220 _ _ h1) yv_X8_passYear lk_RX0_78 rfl aH_50 rfl rfl hl.1 (Nat.le_of_ble_eq_true rfl) (by decide) (by decide) hR (ho_A hR) dX0_reach_65 (fun H locs hR => ?_)
      refine lv_pop C.1 C.2.1 dX0_reach_68 rfl ?_
      refine lv_aload_n C.1 C.2.1 dX0_reach_69 rfl (lv_at hl 0 rfl) ?_
      refine lv_iload_n C.1 C.2.1 dX0_reach_70 rfl (lv_at hl 2 rfl) ?_
      obtain ⟨S2, h2, h⟩ := ob_ok h
      refine hr_Vv (S' := S2) (As := [.int x3]) (rest := []) C cf0 (c_X0_note l E x3 _ _ h2) yv_X0_note lk_RX0_74 rfl aH_60 rfl rfl hl.1 (Nat.le_of_ble_eq_true rfl) (by decide) (by decide) hR (ho_A hR) dX0_reach_71 (fun H locs hR => ?_)
      obtain ⟨v3, e3, h⟩ := le1_ok h
      refine lv_iinc (v := v3) (lv' := [(3, .int v3), (0, .ref (E.2.1 60)), (2, .int x2)]) C.1 C.2.1 dX0_reach_74 hl (k := 2) rfl (by rw [e3]; rfl) (by decide) rfl (fun ls hl => ?_)
      refine lv_goto (tgt := 52) C.1 C.2.1 dX0_reach_77 (by decide) ?_
      exact ih x2 v3 S2 h _ _ _ hR (lv_sub hl [1, 2, 0] rfl)
def f_X0_reach_45 (a1 : Nat) (x2 : Int32) (S : Hp) : Option (Int32 × Hp) :=
  le1 ((S.1 60 14) + (1 : Int32)) (fun v1 => f_X0_reach_52 a1 5000 x2 v1 S)
set_option maxHeartbeats 4000000 in
set_option maxRecDepth 100000 in
theorem w_X0_reach_45 {p : Program} {l : Launch} {e : Env} {s : State} {m : MethodId} {args : Array Value} {below : List Frame} {meth : Method} {c : Code} {E : Ev} {S0 : Hp} {r : (Int32 × Hp)} (C : ho_I p s m args meth c RX0 cX0_reach 4 (some .boolean)) (a1 : Nat) (ha1 : a1 ∈ yH.1 ∧ yH.2.1 a1 = (1, 9)) :
    ∀ (x2 : Int32) (S : Hp), f_X0_reach_45 a1 x2 S = some r → ho_G p l e s m args below meth c yH E S0 6 4 (some (.int r.1), r.2) 45 [(0, .ref (E.2.1 60)), (2, .int x2)] [] S := by
  intro x2 S h H locs ls hR hl
  unfold f_X0_reach_45 at h
  refine lv_aload_n C.1 C.2.1 dX0_reach_45 rfl (lv_at hl 0 rfl) ?_
  refine ho_getI C cf0 fH_RX0_55 hR aH_60 dX0_reach_46 ?_
  refine lv_iconst (v := (1 : Int32)) C.1 C.2.1 dX0_reach_49 (by decide) ?_
  refine lv_iadd C.1 C.2.1 dX0_reach_50 ?_
  refine lv_topi (fun v1 e1 => ?_)
  replace h := le1_at e1 h
  refine lv_istore_n (lv' := [(3, .int v1), (0, .ref (E.2.1 60)), (2, .int x2)]) C.1 C.2.1 dX0_reach_51 rfl hl (by decide) rfl (fun ls hl => ?_)
  exact w_X0_reach_52 C a1 ha1 5000 x2 v1 S h _ _ _ hR (lv_sub hl [1, 2, 0] rfl)
def f_X0_reach (a1 : Nat) (x2 : Int32) (S : Hp) : Option (Int32 × Hp) :=
  if x2 < 0 then some ((0 : Int32), S) else if (60 : Int32) < x2 then some ((0 : Int32), S) else if ((S.1 a1 0) + x2) ≤ (999 : Int32) then if (S.1 60 14) = (-1 : Int32) then ob (f_X9_copy 1220 a1 S) (fun S1 => ob (f_X0_note (0 : Int32) S1) (fun S2 => f_X0_reach_45 a1 x2 S2)) else f_X0_reach_45 a1 x2 S else some ((0 : Int32), S)
set_option maxHeartbeats 4000000 in
set_option maxRecDepth 100000 in
theorem c_X0_reach (l : Launch) (E : Ev) (a1 : Nat) (x2 : Int32) (ha1 : a1 ∈ yH.1 ∧ yH.2.1 a1 = (1, 9)) (S : Hp) (r : (Int32 × Hp)) (h : f_X0_reach a1 x2 S = some r) : ho_M l yH E yX0_reach cX0_reach 4 (some .boolean) 6 [.ref (E.2.1 60), .ref (E.2.1 a1), .int x2] S (some (.int r.1), r.2) := by
  refine ho_in (by decide) (Nat.le_of_ble_eq_true rfl) ?_
  intro p e s m args below meth c C hR ls hl
  have C : ho_I p s m args meth c RX0 cX0_reach 4 (some .boolean) := C
  have hl : lv_has ls 4 [(0, .ref (E.2.1 60)), (1, .ref (E.2.1 a1)), (2, .int x2)] := hl
  unfold f_X0_reach at h
  refine lv_iload_n C.1 C.2.1 dX0_reach_0 rfl (lv_at hl 2 rfl) ?_
  refine lv_if_lt (tgt := 22) C.1 C.2.1 dX0_reach_1 (by decide) (fun hc => ?_) (fun hc => ?_)
  · replace h := if_t h hc
    refine lv_iconst (v := (0 : Int32)) C.1 C.2.1 dX0_reach_22 (by decide) ?_
    exact ho_zret C hR (Or.inl rfl) h dX0_reach_23
  · replace h := if_f h hc
    refine lv_iload_n C.1 C.2.1 dX0_reach_4 rfl (lv_at hl 2 rfl) ?_
    refine lv_bipush (v := (60 : Int32)) C.1 C.2.1 dX0_reach_5 (by decide) ?_
    refine lv_icmp_gt (tgt := 22) C.1 C.2.1 dX0_reach_7 (by decide) (fun hc => ?_) (fun hc => ?_)
    · replace h := if_t h hc
      refine lv_iconst (v := (0 : Int32)) C.1 C.2.1 dX0_reach_22 (by decide) ?_
      exact ho_zret C hR (Or.inl rfl) h dX0_reach_23
    · replace h := if_f h hc
      refine lv_aload_n C.1 C.2.1 dX0_reach_10 rfl (lv_at hl 1 rfl) ?_
      refine ho_getI C cf9 fH_RX0_67 hR ha1 dX0_reach_11 ?_
      refine lv_iload_n C.1 C.2.1 dX0_reach_14 rfl (lv_at hl 2 rfl) ?_
      refine lv_iadd C.1 C.2.1 dX0_reach_15 ?_
      refine lv_sipush (v := (999 : Int32)) C.1 C.2.1 dX0_reach_16 (by decide) ?_
      refine lv_icmp_le (tgt := 24) C.1 C.2.1 dX0_reach_19 (by decide) (fun hc => ?_) (fun hc => ?_)
      · replace h := if_t h hc
        refine lv_aload_n C.1 C.2.1 dX0_reach_24 rfl (lv_at hl 0 rfl) ?_
        refine ho_getI C cf0 fH_RX0_55 hR aH_60 dX0_reach_25 ?_
        refine lv_iconst (v := (-1 : Int32)) C.1 C.2.1 dX0_reach_28 (by decide) ?_
        refine lv_icmp_ne (tgt := 45) C.1 C.2.1 dX0_reach_29 (by decide) (fun hc => ?_) (fun hc => ?_)
        · replace h := if_f h hc
          exact w_X0_reach_45 C a1 ha1 x2 S h _ _ _ hR (lv_sub hl [0, 2] rfl)
        · replace h := if_t h hc
          refine lv_aload_n C.1 C.2.1 dX0_reach_32 rfl (lv_at hl 0 rfl) ?_
          refine ho_getR (a' := 1220) C cf0 fH_RX0_30 hR aH_60 rfl dX0_reach_33 ?_
          refine lv_aload_n C.1 C.2.1 dX0_reach_36 rfl (lv_at hl 1 rfl) ?_
          obtain ⟨S1, h1, h⟩ := ob_ok h
          refine hr_Vv (S' := S1) (As := [.ref (E.2.1 a1)]) (rest := []) C cf9 (c_X9_copy l E 1220 a1 aH_1220 ha1 _ _ h1) yv_X9_copy lk_RX0_70 rfl aH_1220 rfl rfl hl.1 (Nat.le_of_ble_eq_true rfl) (by decide) (by decide) hR (ho_A hR) dX0_reach_37 (fun H locs hR => ?_)
          refine lv_aload_n C.1 C.2.1 dX0_reach_40 rfl (lv_at hl 0 rfl) ?_
          refine lv_iconst (v := (0 : Int32)) C.1 C.2.1 dX0_reach_41 (by decide) ?_
          obtain ⟨S2, h2, h⟩ := ob_ok h
          refine hr_Vv (S' := S2) (As := [.int (0 : Int32)]) (rest := []) C cf0 (c_X0_note l E (0 : Int32) _ _ h2) yv_X0_note lk_RX0_74 rfl aH_60 rfl rfl hl.1 (Nat.le_of_ble_eq_true rfl) (by decide) (by decide) hR (ho_A hR) dX0_reach_42 (fun H locs hR => ?_)
          exact w_X0_reach_45 C a1 ha1 x2 S2 h _ _ _ hR (lv_sub hl [0, 2] rfl)
      · replace h := if_f h hc
        refine lv_iconst (v := (0 : Int32)) C.1 C.2.1 dX0_reach_22 (by decide) ?_
        exact ho_zret C hR (Or.inl rfl) h dX0_reach_23
theorem dX0_worth_0 : decode cX0_worth 0 = .ok (.bipush 100, 2) := by decide +kernel
theorem dX0_worth_2 : decode cX0_worth 2 = .ok (.aload_n 0, 1) := by decide +kernel
theorem dX0_worth_3 : decode cX0_worth 3 = .ok (.getfield 15, 3) := by decide +kernel
theorem dX0_worth_6 : decode cX0_worth 6 = .ok (.iload_n 1, 1) := by decide +kernel
theorem dX0_worth_7 : decode cX0_worth 7 = .ok (.iaload, 1) := by decide +kernel
theorem dX0_worth_8 : decode cX0_worth 8 = .ok (.imul, 1) := by decide +kernel
theorem dX0_worth_9 : decode cX0_worth 9 = .ok (.aload_n 0, 1) := by decide +kernel
theorem dX0_worth_10 : decode cX0_worth 10 = .ok (.getfield 9, 3) := by decide +kernel
theorem dX0_worth_13 : decode cX0_worth 13 = .ok (.iload_n 1, 1) := by decide +kernel
theorem dX0_worth_14 : decode cX0_worth 14 = .ok (.iaload, 1) := by decide +kernel
theorem dX0_worth_15 : decode cX0_worth 15 = .ok (.isub, 1) := by decide +kernel
theorem dX0_worth_16 : decode cX0_worth 16 = .ok (.ireturn, 1) := by decide +kernel
def f_X0_worth (x1 : Int32) (S : Hp) : Option (Int32 × Hp) :=
  ldI S 62 61 x1 (fun v1 => ldI S 61 61 x1 (fun v2 => some ((((100 : Int32) * v1) - v2), S)))
set_option maxHeartbeats 4000000 in
set_option maxRecDepth 100000 in
theorem c_X0_worth (l : Launch) (E : Ev) (x1 : Int32) (S : Hp) (r : (Int32 × Hp)) (h : f_X0_worth x1 S = some r) : ho_M l yH E yX0_worth cX0_worth 2 (some .int) 0 [.ref (E.2.1 60), .int x1] S (some (.int r.1), r.2) := by
  refine ho_in (by decide) (Nat.le_of_ble_eq_true rfl) ?_
  intro p e s m args below meth c C hR ls hl
  have C : ho_I p s m args meth c RX0 cX0_worth 2 (some .int) := C
  have hl : lv_has ls 2 [(0, .ref (E.2.1 60)), (1, .int x1)] := hl
  unfold f_X0_worth at h
  refine lv_bipush (v := (100 : Int32)) C.1 C.2.1 dX0_worth_0 (by decide) ?_
  refine lv_aload_n C.1 C.2.1 dX0_worth_2 rfl (lv_at hl 0 rfl) ?_
  refine ho_getR (a' := 62) C cf0 fH_RX0_15 hR aH_60 rfl dX0_worth_3 ?_
  refine lv_iload_n C.1 C.2.1 dX0_worth_6 rfl (lv_at hl 1 rfl) ?_
  obtain ⟨v1, e1, hi1, h⟩ := ldI_ok h
  refine hr_ild C hR aH_62 hi1 e1 dX0_worth_7 ?_
  refine lv_imul C.1 C.2.1 dX0_worth_8 ?_
  refine lv_aload_n C.1 C.2.1 dX0_worth_9 rfl (lv_at hl 0 rfl) ?_
  refine ho_getR (a' := 61) C cf0 fH_RX0_9 hR aH_60 rfl dX0_worth_10 ?_
  refine lv_iload_n C.1 C.2.1 dX0_worth_13 rfl (lv_at hl 1 rfl) ?_
  obtain ⟨v2, e2, hi2, h⟩ := ldI_ok h
  refine hr_ild C hR aH_61 hi2 e2 dX0_worth_14 ?_
  refine lv_isub C.1 C.2.1 dX0_worth_15 ?_
  exact ho_iret C hR h dX0_worth_16
theorem dX8_sightOfTrick_0 : decode cX8_sightOfTrick 0 = .ok (.iconst 0, 1) := by decide +kernel
theorem dX8_sightOfTrick_1 : decode cX8_sightOfTrick 1 = .ok (.istore_n 3, 1) := by decide +kernel
theorem dX8_sightOfTrick_2 : decode cX8_sightOfTrick 2 = .ok (.iconst 0, 1) := by decide +kernel
theorem dX8_sightOfTrick_3 : decode cX8_sightOfTrick 3 = .ok (.istore 4, 2) := by decide +kernel
theorem dX8_sightOfTrick_5 : decode cX8_sightOfTrick 5 = .ok (.iload 4, 2) := by decide +kernel
theorem dX8_sightOfTrick_7 : decode cX8_sightOfTrick 7 = .ok (.aload_n 0, 1) := by decide +kernel
theorem dX8_sightOfTrick_8 : decode cX8_sightOfTrick 8 = .ok (.getfield 36, 3) := by decide +kernel
theorem dX8_sightOfTrick_11 : decode cX8_sightOfTrick 11 = .ok (.getfield 75, 3) := by decide +kernel
theorem dX8_sightOfTrick_14 : decode cX8_sightOfTrick 14 = .ok (.iconst 2, 1) := by decide +kernel
theorem dX8_sightOfTrick_15 : decode cX8_sightOfTrick 15 = .ok (.iaload, 1) := by decide +kernel
theorem dX8_sightOfTrick_16 : decode cX8_sightOfTrick 16 = .ok (.if_icmp .ge 27, 3) := by decide +kernel
theorem dX8_sightOfTrick_19 : decode cX8_sightOfTrick 19 = .ok (.iload_n 3, 1) := by decide +kernel
theorem dX8_sightOfTrick_20 : decode cX8_sightOfTrick 20 = .ok (.aload_n 0, 1) := by decide +kernel
theorem dX8_sightOfTrick_21 : decode cX8_sightOfTrick 21 = .ok (.aload_n 1, 1) := by decide +kernel
theorem dX8_sightOfTrick_22 : decode cX8_sightOfTrick 22 = .ok (.iload_n 2, 1) := by decide +kernel
theorem dX8_sightOfTrick_23 : decode cX8_sightOfTrick 23 = .ok (.iload 4, 2) := by decide +kernel
theorem dX8_sightOfTrick_25 : decode cX8_sightOfTrick 25 = .ok (.aload_n 1, 1) := by decide +kernel
theorem dX8_sightOfTrick_26 : decode cX8_sightOfTrick 26 = .ok (.getfield 78, 3) := by decide +kernel
theorem dX8_sightOfTrick_29 : decode cX8_sightOfTrick 29 = .ok (.iload 4, 2) := by decide +kernel
theorem dX8_sightOfTrick_31 : decode cX8_sightOfTrick 31 = .ok (.iaload, 1) := by decide +kernel
theorem dX8_sightOfTrick_32 : decode cX8_sightOfTrick 32 = .ok (.invokevirtual 81, 3) := by decide +kernel
theorem dX8_sightOfTrick_35 : decode cX8_sightOfTrick 35 = .ok (.iadd, 1) := by decide +kernel
theorem dX8_sightOfTrick_36 : decode cX8_sightOfTrick 36 = .ok (.istore_n 3, 1) := by decide +kernel
theorem dX8_sightOfTrick_37 : decode cX8_sightOfTrick 37 = .ok (.iinc 4 1, 3) := by decide +kernel
theorem dX8_sightOfTrick_40 : decode cX8_sightOfTrick 40 = .ok (.goto (-35), 3) := by decide +kernel
theorem dX8_sightOfTrick_43 : decode cX8_sightOfTrick 43 = .ok (.iload_n 3, 1) := by decide +kernel
theorem dX8_sightOfTrick_44 : decode cX8_sightOfTrick 44 = .ok (.ireturn, 1) := by decide +kernel
def f_X8_sightOfTrick_5 (a1 : Nat) : Nat → Int32 → Int32 → Int32 → Hp → Option (Int32 × Hp)
  | 0, _, _, _, _ => none
  | k + 1, x2, x3, x4, S => ldP yH S 50 0 2 (fun p1 => ldI S (p1 + 1) 3 (2 : Int32) (fun v2 => if v2 ≤ x4 then some (x3, S) else ldI S (a1 + 4) 5 x4 (fun v3 => ob2 (f_X8_glimpse a1 x2 x4 v3 S) (fun r4 S4 => le1 (x3 + r4) (fun v5 => le1 (x4 + (1 : Int32)) (fun v6 => f_X8_sightOfTrick_5 a1 k x2 v5 v6 S4))))))
set_option maxHeartbeats 4000000 in
set_option maxRecDepth 100000 in
theorem w_X8_sightOfTrick_5 {p : Program} {l : Launch} {e : Env} {s : State} {m : MethodId} {args : Array Value} {below : List Frame} {meth : Method} {c : Code} {E : Ev} {S0 : Hp} {r : (Int32 × Hp)} (C : ho_I p s m args meth c RX8 cX8_sightOfTrick 5 (some .int)) (a1 : Nat) (ha1 : a1 ∈ yH.1 ∧ yH.2.1 a1 = (1, 9)) :
    ∀ (k : Nat) (x2 : Int32) (x3 : Int32) (x4 : Int32) (S : Hp), f_X8_sightOfTrick_5 a1 k x2 x3 x4 S = some r → ho_G p l e s m args below meth c yH E S0 4 5 (some (.int r.1), r.2) 5 [(0, .ref (E.2.1 50)), (1, .ref (E.2.1 a1)), (2, .int x2), (3, .int x3), (4, .int x4)] [] S := by
  intro k
  induction k with
  | zero =>
    intro x2 x3 x4 S h
    exact absurd (show (none : Option (Int32 × Hp)) = some r from h) (by simp)
  | succ k ih =>
    intro x2 x3 x4 S h H locs ls hR hl
    rw [f_X8_sightOfTrick_5] at h
    refine lv_iload C.1 C.2.1 dX8_sightOfTrick_5 (lv_at hl 4 rfl) ?_
    refine lv_aload_n C.1 C.2.1 dX8_sightOfTrick_7 rfl (lv_at hl 0 rfl) ?_
    obtain ⟨p1, e1, hp1, h⟩ := ldP_ok h
    refine hr_getP C cf8 fH_RX8_36 hR aH_50 e1 dX8_sightOfTrick_8 ?_
    refine ho_getR (a' := (p1 + 1)) C cf2 fH_RX8_75 hR hp1 (pH_2_5 hp1.2) dX8_sightOfTrick_11 ?_
    refine lv_iconst (v := (2 : Int32)) C.1 C.2.1 dX8_sightOfTrick_14 (by decide) ?_
    obtain ⟨v2, e2, hi2, h⟩ := ldI_ok h
    refine hr_ild C hR (rH_2_1 hp1) hi2 e2 dX8_sightOfTrick_15 ?_
    refine lv_icmp_ge (tgt := 43) C.1 C.2.1 dX8_sightOfTrick_16 (by decide) (fun hc => ?_) (fun hc => ?_)
    · replace h := if_t h hc
      refine lv_iload_n C.1 C.2.1 dX8_sightOfTrick_43 rfl (lv_at hl 3 rfl) ?_
      exact ho_iret C hR h dX8_sightOfTrick_44
    · replace h := if_f h hc
      refine lv_iload_n C.1 C.2.1 dX8_sightOfTrick_19 rfl (lv_at hl 3 rfl) ?_
      refine lv_aload_n C.1 C.2.1 dX8_sightOfTrick_20 rfl (lv_at hl 0 rfl) ?_
      refine lv_aload_n C.1 C.2.1 dX8_sightOfTrick_21 rfl (lv_at hl 1 rfl) ?_
      refine lv_iload_n C.1 C.2.1 dX8_sightOfTrick_22 rfl (lv_at hl 2 rfl) ?_
      refine lv_iload C.1 C.2.1 dX8_sightOfTrick_23 (lv_at hl 4 rfl) ?_
      refine lv_aload_n C.1 C.2.1 dX8_sightOfTrick_25 rfl (lv_at hl 1 rfl) ?_
      refine ho_getR (a' := (a1 + 4)) C cf9 fH_RX8_78 hR ha1 (pH_9_6 ha1.2) dX8_sightOfTrick_26 ?_
      refine lv_iload C.1 C.2.1 dX8_sightOfTrick_29 (lv_at hl 4 rfl) ?_
      obtain ⟨v3, e3, hi3, h⟩ := ldI_ok h
      refine hr_ild C hR (rH_9_4 ha1) hi3 e3 dX8_sightOfTrick_31 ?_
      obtain ⟨r4, S4, h4, h⟩ := ob2_ok h
      refine hr_Vi (v := r4) (S' := S4) (As := [.ref (E.2.1 a1), .int x2, .int x4, .int v3]) (rest := [.int x3]) C cf8 (c_X8_glimpse l E a1 x2 x4 v3 ha1 _ _ h4) yv_X8_glimpse lk_RX8_81 rfl aH_50 rfl rfl hl.1 (Nat.le_of_ble_eq_true rfl) (by decide) (by decide) hR (ho_A hR) dX8_sightOfTrick_32 (fun H locs hR => ?_)
      refine lv_iadd C.1 C.2.1 dX8_sightOfTrick_35 ?_
      refine lv_topi (fun v5 e5 => ?_)
      replace h := le1_at e5 h
      refine lv_istore_n (lv' := [(3, .int v5), (0, .ref (E.2.1 50)), (1, .ref (E.2.1 a1)), (2, .int x2), (4, .int x4)]) C.1 C.2.1 dX8_sightOfTrick_36 rfl hl (by decide) rfl (fun ls hl => ?_)
      obtain ⟨v6, e6, h⟩ := le1_ok h
      refine lv_iinc (v := v6) (lv' := [(4, .int v6), (3, .int v5), (0, .ref (E.2.1 50)), (1, .ref (E.2.1 a1)), (2, .int x2)]) C.1 C.2.1 dX8_sightOfTrick_37 hl (k := 4) rfl (by rw [e6]; rfl) (by decide) rfl (fun ls hl => ?_)
      refine lv_goto (tgt := 5) C.1 C.2.1 dX8_sightOfTrick_40 (by decide) ?_
      exact ih x2 v5 v6 S4 h _ _ _ hR (lv_sub hl [2, 3, 4, 1, 0] rfl)
def f_X8_sightOfTrick (a1 : Nat) (x2 : Int32) (S : Hp) : Option (Int32 × Hp) :=
  f_X8_sightOfTrick_5 a1 5000 x2 (0 : Int32) (0 : Int32) S
set_option maxHeartbeats 4000000 in
set_option maxRecDepth 100000 in
theorem c_X8_sightOfTrick (l : Launch) (E : Ev) (a1 : Nat) (x2 : Int32) (ha1 : a1 ∈ yH.1 ∧ yH.2.1 a1 = (1, 9)) (S : Hp) (r : (Int32 × Hp)) (h : f_X8_sightOfTrick a1 x2 S = some r) : ho_M l yH E yX8_sightOfTrick cX8_sightOfTrick 5 (some .int) 4 [.ref (E.2.1 50), .ref (E.2.1 a1), .int x2] S (some (.int r.1), r.2) := by
  refine ho_in (by decide) (Nat.le_of_ble_eq_true rfl) ?_
  intro p e s m args below meth c C hR ls hl
  have C : ho_I p s m args meth c RX8 cX8_sightOfTrick 5 (some .int) := C
  have hl : lv_has ls 5 [(0, .ref (E.2.1 50)), (1, .ref (E.2.1 a1)), (2, .int x2)] := hl
  unfold f_X8_sightOfTrick at h
  refine lv_iconst (v := (0 : Int32)) C.1 C.2.1 dX8_sightOfTrick_0 (by decide) ?_
  refine lv_istore_n (lv' := [(3, .int (0 : Int32)), (0, .ref (E.2.1 50)), (1, .ref (E.2.1 a1)), (2, .int x2)]) C.1 C.2.1 dX8_sightOfTrick_1 rfl hl (by decide) rfl (fun ls hl => ?_)
  refine lv_iconst (v := (0 : Int32)) C.1 C.2.1 dX8_sightOfTrick_2 (by decide) ?_
  refine lv_istore (lv' := [(4, .int (0 : Int32)), (3, .int (0 : Int32)), (0, .ref (E.2.1 50)), (1, .ref (E.2.1 a1)), (2, .int x2)]) C.1 C.2.1 dX8_sightOfTrick_3 hl (by decide) rfl (fun ls hl => ?_)
  exact w_X8_sightOfTrick_5 C a1 ha1 5000 x2 (0 : Int32) (0 : Int32) S h _ _ _ hR (lv_sub hl [2, 3, 4, 1, 0] rfl)
theorem dX0_lookAhead_0 : decode cX0_lookAhead 0 = .ok (.aload_n 0, 1) := by decide +kernel
theorem dX0_lookAhead_1 : decode cX0_lookAhead 1 = .ok (.getfield 63, 3) := by decide +kernel
theorem dX0_lookAhead_4 : decode cX0_lookAhead 4 = .ok (.aload_n 0, 1) := by decide +kernel
theorem dX0_lookAhead_5 : decode cX0_lookAhead 5 = .ok (.getfield 34, 3) := by decide +kernel
theorem dX0_lookAhead_8 : decode cX0_lookAhead 8 = .ok (.invokevirtual 101, 3) := by decide +kernel
theorem dX0_lookAhead_11 : decode cX0_lookAhead 11 = .ok (.aload_n 0, 1) := by decide +kernel
theorem dX0_lookAhead_12 : decode cX0_lookAhead 12 = .ok (.getfield 63, 3) := by decide +kernel
theorem dX0_lookAhead_15 : decode cX0_lookAhead 15 = .ok (.getfield 104, 3) := by decide +kernel
theorem dX0_lookAhead_18 : decode cX0_lookAhead 18 = .ok (.iconst 0, 1) := by decide +kernel
theorem dX0_lookAhead_19 : decode cX0_lookAhead 19 = .ok (.aload_n 0, 1) := by decide +kernel
theorem dX0_lookAhead_20 : decode cX0_lookAhead 20 = .ok (.getfield 43, 3) := by decide +kernel
theorem dX0_lookAhead_23 : decode cX0_lookAhead 23 = .ok (.iconst 0, 1) := by decide +kernel
theorem dX0_lookAhead_24 : decode cX0_lookAhead 24 = .ok (.bipush 6, 2) := by decide +kernel
theorem dX0_lookAhead_26 : decode cX0_lookAhead 26 = .ok (.invokestatic 107, 3) := by decide +kernel
theorem dX0_lookAhead_29 : decode cX0_lookAhead 29 = .ok (.iconst 0, 1) := by decide +kernel
theorem dX0_lookAhead_30 : decode cX0_lookAhead 30 = .ok (.istore_n 2, 1) := by decide +kernel
theorem dX0_lookAhead_31 : decode cX0_lookAhead 31 = .ok (.iload_n 2, 1) := by decide +kernel
theorem dX0_lookAhead_32 : decode cX0_lookAhead 32 = .ok (.bipush 6, 2) := by decide +kernel
theorem dX0_lookAhead_34 : decode cX0_lookAhead 34 = .ok (.if_icmp .ge 104, 3) := by decide +kernel
theorem dX0_lookAhead_37 : decode cX0_lookAhead 37 = .ok (.iload_n 1, 1) := by decide +kernel
theorem dX0_lookAhead_38 : decode cX0_lookAhead 38 = .ok (.iload_n 2, 1) := by decide +kernel
theorem dX0_lookAhead_39 : decode cX0_lookAhead 39 = .ok (.ishr, 1) := by decide +kernel
theorem dX0_lookAhead_40 : decode cX0_lookAhead 40 = .ok (.iconst 1, 1) := by decide +kernel
theorem dX0_lookAhead_41 : decode cX0_lookAhead 41 = .ok (.iand, 1) := by decide +kernel
theorem dX0_lookAhead_42 : decode cX0_lookAhead 42 = .ok (.iconst 1, 1) := by decide +kernel
theorem dX0_lookAhead_43 : decode cX0_lookAhead 43 = .ok (.if_icmp .ne 89, 3) := by decide +kernel
theorem dX0_lookAhead_46 : decode cX0_lookAhead 46 = .ok (.aload_n 0, 1) := by decide +kernel
theorem dX0_lookAhead_47 : decode cX0_lookAhead 47 = .ok (.getfield 37, 3) := by decide +kernel
theorem dX0_lookAhead_50 : decode cX0_lookAhead 50 = .ok (.aload_n 0, 1) := by decide +kernel
theorem dX0_lookAhead_51 : decode cX0_lookAhead 51 = .ok (.getfield 34, 3) := by decide +kernel
theorem dX0_lookAhead_54 : decode cX0_lookAhead 54 = .ok (.invokevirtual 70, 3) := by decide +kernel
theorem dX0_lookAhead_57 : decode cX0_lookAhead 57 = .ok (.aload_n 0, 1) := by decide +kernel
theorem dX0_lookAhead_58 : decode cX0_lookAhead 58 = .ok (.getfield 37, 3) := by decide +kernel
theorem dX0_lookAhead_61 : decode cX0_lookAhead 61 = .ok (.dup, 1) := by decide +kernel
theorem dX0_lookAhead_62 : decode cX0_lookAhead 62 = .ok (.getfield 67, 3) := by decide +kernel
theorem dX0_lookAhead_65 : decode cX0_lookAhead 65 = .ok (.iconst 1, 1) := by decide +kernel
theorem dX0_lookAhead_66 : decode cX0_lookAhead 66 = .ok (.iadd, 1) := by decide +kernel
theorem dX0_lookAhead_67 : decode cX0_lookAhead 67 = .ok (.putfield 67, 3) := by decide +kernel
theorem dX0_lookAhead_70 : decode cX0_lookAhead 70 = .ok (.aload_n 0, 1) := by decide +kernel
theorem dX0_lookAhead_71 : decode cX0_lookAhead 71 = .ok (.getfield 46, 3) := by decide +kernel
theorem dX0_lookAhead_74 : decode cX0_lookAhead 74 = .ok (.iload_n 2, 1) := by decide +kernel
theorem dX0_lookAhead_75 : decode cX0_lookAhead 75 = .ok (.aload_n 0, 1) := by decide +kernel
theorem dX0_lookAhead_76 : decode cX0_lookAhead 76 = .ok (.getfield 63, 3) := by decide +kernel
theorem dX0_lookAhead_79 : decode cX0_lookAhead 79 = .ok (.aload_n 0, 1) := by decide +kernel
theorem dX0_lookAhead_80 : decode cX0_lookAhead 80 = .ok (.getfield 37, 3) := by decide +kernel
theorem dX0_lookAhead_83 : decode cX0_lookAhead 83 = .ok (.iload_n 2, 1) := by decide +kernel
theorem dX0_lookAhead_84 : decode cX0_lookAhead 84 = .ok (.invokevirtual 113, 3) := by decide +kernel
theorem dX0_lookAhead_87 : decode cX0_lookAhead 87 = .ok (.iastore, 1) := by decide +kernel
theorem dX0_lookAhead_88 : decode cX0_lookAhead 88 = .ok (.aload_n 0, 1) := by decide +kernel
theorem dX0_lookAhead_89 : decode cX0_lookAhead 89 = .ok (.getfield 37, 3) := by decide +kernel
theorem dX0_lookAhead_92 : decode cX0_lookAhead 92 = .ok (.getfield 117, 3) := by decide +kernel
theorem dX0_lookAhead_95 : decode cX0_lookAhead 95 = .ok (.iload_n 2, 1) := by decide +kernel
theorem dX0_lookAhead_96 : decode cX0_lookAhead 96 = .ok (.sipush 9999, 3) := by decide +kernel
theorem dX0_lookAhead_99 : decode cX0_lookAhead 99 = .ok (.aload_n 0, 1) := by decide +kernel
theorem dX0_lookAhead_100 : decode cX0_lookAhead 100 = .ok (.getfield 37, 3) := by decide +kernel
theorem dX0_lookAhead_103 : decode cX0_lookAhead 103 = .ok (.getfield 117, 3) := by decide +kernel
theorem dX0_lookAhead_106 : decode cX0_lookAhead 106 = .ok (.iload_n 2, 1) := by decide +kernel
theorem dX0_lookAhead_107 : decode cX0_lookAhead 107 = .ok (.iaload, 1) := by decide +kernel
theorem dX0_lookAhead_108 : decode cX0_lookAhead 108 = .ok (.iconst 1, 1) := by decide +kernel
theorem dX0_lookAhead_109 : decode cX0_lookAhead 109 = .ok (.iadd, 1) := by decide +kernel
theorem dX0_lookAhead_110 : decode cX0_lookAhead 110 = .ok (.invokestatic 120, 3) := by decide +kernel
theorem dX0_lookAhead_113 : decode cX0_lookAhead 113 = .ok (.iastore, 1) := by decide +kernel
theorem dX0_lookAhead_114 : decode cX0_lookAhead 114 = .ok (.aload_n 0, 1) := by decide +kernel
theorem dX0_lookAhead_115 : decode cX0_lookAhead 115 = .ok (.getfield 49, 3) := by decide +kernel
theorem dX0_lookAhead_118 : decode cX0_lookAhead 118 = .ok (.iload_n 2, 1) := by decide +kernel
theorem dX0_lookAhead_119 : decode cX0_lookAhead 119 = .ok (.aload_n 0, 1) := by decide +kernel
theorem dX0_lookAhead_120 : decode cX0_lookAhead 120 = .ok (.getfield 63, 3) := by decide +kernel
theorem dX0_lookAhead_123 : decode cX0_lookAhead 123 = .ok (.aload_n 0, 1) := by decide +kernel
theorem dX0_lookAhead_124 : decode cX0_lookAhead 124 = .ok (.getfield 37, 3) := by decide +kernel
theorem dX0_lookAhead_127 : decode cX0_lookAhead 127 = .ok (.iload_n 2, 1) := by decide +kernel
theorem dX0_lookAhead_128 : decode cX0_lookAhead 128 = .ok (.invokevirtual 113, 3) := by decide +kernel
theorem dX0_lookAhead_131 : decode cX0_lookAhead 131 = .ok (.iastore, 1) := by decide +kernel
theorem dX0_lookAhead_132 : decode cX0_lookAhead 132 = .ok (.iinc 2 1, 3) := by decide +kernel
theorem dX0_lookAhead_135 : decode cX0_lookAhead 135 = .ok (.goto (-104), 3) := by decide +kernel
theorem dX0_lookAhead_138 : decode cX0_lookAhead 138 = .ok (.return_, 1) := by decide +kernel
def f_X0_lookAhead_132 (K31 : Int32 → Int32 → Hp → Option Hp) (x1 : Int32) (x2 : Int32) (S : Hp) : Option Hp :=
  le1 (x2 + (1 : Int32)) (fun v1 => K31 x1 v1 S)
set_option maxHeartbeats 4000000 in
set_option maxRecDepth 100000 in
theorem w_X0_lookAhead_132 {p : Program} {l : Launch} {e : Env} {s : State} {m : MethodId} {args : Array Value} {below : List Frame} {meth : Method} {c : Code} {E : Ev} {S0 : Hp} {r : Hp} (C : ho_I p s m args meth c RX0 cX0_lookAhead 3 none) (K31 : Int32 → Int32 → Hp → Option Hp) (hK31 : ∀ (y1 : Int32) (y2 : Int32) (S : Hp), K31 y1 y2 S = some r → ho_G p l e s m args below meth c yH E S0 5 3 (none, r) 31 [(0, .ref (E.2.1 60)), (1, .int y1), (2, .int y2)] [] S) :
    ∀ (x1 : Int32) (x2 : Int32) (S : Hp), f_X0_lookAhead_132 K31 x1 x2 S = some r → ho_G p l e s m args below meth c yH E S0 5 3 (none, r) 132 [(0, .ref (E.2.1 60)), (1, .int x1), (2, .int x2)] [] S := by
  intro x1 x2 S h H locs ls hR hl
  unfold f_X0_lookAhead_132 at h
  obtain ⟨v1, e1, h⟩ := le1_ok h
  refine lv_iinc (v := v1) (lv' := [(2, .int v1), (0, .ref (E.2.1 60)), (1, .int x1)]) C.1 C.2.1 dX0_lookAhead_132 hl (k := 2) rfl (by rw [e1]; rfl) (by decide) rfl (fun ls hl => ?_)
  refine lv_goto (tgt := 31) C.1 C.2.1 dX0_lookAhead_135 (by decide) ?_
  exact hK31 x1 v1 S h _ _ _ hR (lv_sub hl [1, 2, 0] rfl)
def f_X0_lookAhead_31 : Nat → Int32 → Int32 → Hp → Option Hp
  | 0, _, _, _ => none
  | k + 1, x1, x2, S => if (6 : Int32) ≤ x2 then some S else if ((x1 >>> (x2 &&& 31)) &&& (1 : Int32)) = (1 : Int32) then ob (f_X9_copy 1240 1230 S) (fun S1 => le1 (ho_sI S1 1240 0 ((S1.1 1240 0) + (1 : Int32))) (fun S2 => ob2 (f_X8_sightOfTrick 1240 x2 S2) (fun r3 S3 => stI S3 67 6 x2 r3 (fun S4 => ldI S4 1242 6 x2 (fun v5 => ob2 (f_J9_min_7cf53 (9999 : Int32) (v5 + (1 : Int32)) S4) (fun r6 S6 => stI S6 1242 6 x2 r6 (fun S7 => ob2 (f_X8_sightOfTrick 1240 x2 S7) (fun r8 S8 => stI S8 68 6 x2 r8 (fun S9 => f_X0_lookAhead_132 (f_X0_lookAhead_31 k) x1 x2 S9))))))))) else f_X0_lookAhead_132 (f_X0_lookAhead_31 k) x1 x2 S
set_option maxHeartbeats 4000000 in
set_option maxRecDepth 100000 in
theorem w_X0_lookAhead_31 {p : Program} {l : Launch} {e : Env} {s : State} {m : MethodId} {args : Array Value} {below : List Frame} {meth : Method} {c : Code} {E : Ev} {S0 : Hp} {r : Hp} (C : ho_I p s m args meth c RX0 cX0_lookAhead 3 none) :
    ∀ (k : Nat) (x1 : Int32) (x2 : Int32) (S : Hp), f_X0_lookAhead_31 k x1 x2 S = some r → ho_G p l e s m args below meth c yH E S0 5 3 (none, r) 31 [(0, .ref (E.2.1 60)), (1, .int x1), (2, .int x2)] [] S := by
  intro k
  induction k with
  | zero =>
    intro x1 x2 S h
    exact absurd (show (none : Option Hp) = some r from h) (by simp)
  | succ k ih =>
    intro x1 x2 S h H locs ls hR hl
    rw [f_X0_lookAhead_31] at h
    refine lv_iload_n C.1 C.2.1 dX0_lookAhead_31 rfl (lv_at hl 2 rfl) ?_
    refine lv_bipush (v := (6 : Int32)) C.1 C.2.1 dX0_lookAhead_32 (by decide) ?_
    refine lv_icmp_ge (tgt := 138) C.1 C.2.1 dX0_lookAhead_34 (by decide) (fun hc => ?_) (fun hc => ?_)
    · replace h := if_t h hc
      exact ho_vret C hR h dX0_lookAhead_138
    · replace h := if_f h hc
      refine lv_iload_n C.1 C.2.1 dX0_lookAhead_37 rfl (lv_at hl 1 rfl) ?_
      refine lv_iload_n C.1 C.2.1 dX0_lookAhead_38 rfl (lv_at hl 2 rfl) ?_
      refine lv_ishr C.1 C.2.1 dX0_lookAhead_39 ?_
      refine lv_iconst (v := (1 : Int32)) C.1 C.2.1 dX0_lookAhead_40 (by decide) ?_
      refine lv_iand C.1 C.2.1 dX0_lookAhead_41 ?_
      refine lv_iconst (v := (1 : Int32)) C.1 C.2.1 dX0_lookAhead_42 (by decide) ?_
      refine lv_icmp_ne (tgt := 132) C.1 C.2.1 dX0_lookAhead_43 (by decide) (fun hc => ?_) (fun hc => ?_)
      · replace h := if_f h hc
        exact w_X0_lookAhead_132 C (f_X0_lookAhead_31 k) ih x1 x2 S h _ _ _ hR (lv_sub hl [0, 1, 2] rfl)
      · replace h := if_t h hc
        refine lv_aload_n C.1 C.2.1 dX0_lookAhead_46 rfl (lv_at hl 0 rfl) ?_
        refine ho_getR (a' := 1240) C cf0 fH_RX0_37 hR aH_60 rfl dX0_lookAhead_47 ?_
        refine lv_aload_n C.1 C.2.1 dX0_lookAhead_50 rfl (lv_at hl 0 rfl) ?_
        refine ho_getR (a' := 1230) C cf0 fH_RX0_34 hR aH_60 rfl dX0_lookAhead_51 ?_
        obtain ⟨S1, h1, h⟩ := ob_ok h
        refine hr_Vv (S' := S1) (As := [.ref (E.2.1 1230)]) (rest := []) C cf9 (c_X9_copy l E 1240 1230 aH_1240 aH_1230 _ _ h1) yv_X9_copy lk_RX0_70 rfl aH_1240 rfl rfl hl.1 (Nat.le_of_ble_eq_true rfl) (by decide) (by decide) hR (ho_A hR) dX0_lookAhead_54 (fun H locs hR => ?_)
        refine lv_aload_n C.1 C.2.1 dX0_lookAhead_57 rfl (lv_at hl 0 rfl) ?_
        refine ho_getR (a' := 1240) C cf0 fH_RX0_37 hR aH_60 rfl dX0_lookAhead_58 ?_
        refine lv_dup C.1 C.2.1 dX0_lookAhead_61 rfl ?_
        refine ho_getI C cf9 fH_RX0_67 hR aH_1240 dX0_lookAhead_62 ?_
        refine lv_iconst (v := (1 : Int32)) C.1 C.2.1 dX0_lookAhead_65 (by decide) ?_
        refine lv_iadd C.1 C.2.1 dX0_lookAhead_66 ?_
        obtain ⟨S2, e2, h⟩ := le1_ok h
        refine hr_putI C cf9 fH_RX0_67 hR aH_1240 e2 dX0_lookAhead_67 (fun H locs hR => ?_)
        refine lv_aload_n C.1 C.2.1 dX0_lookAhead_70 rfl (lv_at hl 0 rfl) ?_
        refine ho_getR (a' := 67) C cf0 fH_RX0_46 hR aH_60 rfl dX0_lookAhead_71 ?_
        refine lv_iload_n C.1 C.2.1 dX0_lookAhead_74 rfl (lv_at hl 2 rfl) ?_
        refine lv_aload_n C.1 C.2.1 dX0_lookAhead_75 rfl (lv_at hl 0 rfl) ?_
        refine ho_getR (a' := 50) C cf0 fH_RX0_63 hR aH_60 rfl dX0_lookAhead_76 ?_
        refine lv_aload_n C.1 C.2.1 dX0_lookAhead_79 rfl (lv_at hl 0 rfl) ?_
        refine ho_getR (a' := 1240) C cf0 fH_RX0_37 hR aH_60 rfl dX0_lookAhead_80 ?_
        refine lv_iload_n C.1 C.2.1 dX0_lookAhead_83 rfl (lv_at hl 2 rfl) ?_
        obtain ⟨r3, S3, h3, h⟩ := ob2_ok h
        refine hr_Vi (v := r3) (S' := S3) (As := [.ref (E.2.1 1240), .int x2]) (rest := [.int x2, .ref (E.2.1 67)]) C cf8 (c_X8_sightOfTrick l E 1240 x2 aH_1240 _ _ h3) yv_X8_sightOfTrick lk_RX0_113 rfl aH_50 rfl rfl hl.1 (Nat.le_of_ble_eq_true rfl) (by decide) (by decide) hR (ho_A hR) dX0_lookAhead_84 (fun H locs hR => ?_)
        obtain ⟨S4, e4, hi4, h⟩ := stI_ok h
        refine hr_ist C hR aH_67 hi4 e4 dX0_lookAhead_87 (fun H locs hR => ?_)
        refine lv_aload_n C.1 C.2.1 dX0_lookAhead_88 rfl (lv_at hl 0 rfl) ?_
        refine ho_getR (a' := 1240) C cf0 fH_RX0_37 hR aH_60 rfl dX0_lookAhead_89 ?_
        refine ho_getR (a' := 1242) C cf9 fH_RX0_117 hR aH_1240 rfl dX0_lookAhead_92 ?_
        refine lv_iload_n C.1 C.2.1 dX0_lookAhead_95 rfl (lv_at hl 2 rfl) ?_
        refine lv_sipush (v := (9999 : Int32)) C.1 C.2.1 dX0_lookAhead_96 (by decide) ?_
        refine lv_aload_n C.1 C.2.1 dX0_lookAhead_99 rfl (lv_at hl 0 rfl) ?_
        refine ho_getR (a' := 1240) C cf0 fH_RX0_37 hR aH_60 rfl dX0_lookAhead_100 ?_
        refine ho_getR (a' := 1242) C cf9 fH_RX0_117 hR aH_1240 rfl dX0_lookAhead_103 ?_
        refine lv_iload_n C.1 C.2.1 dX0_lookAhead_106 rfl (lv_at hl 2 rfl) ?_
        obtain ⟨v5, e5, hi5, h⟩ := ldI_ok h
        refine hr_ild C hR aH_1242 hi5 e5 dX0_lookAhead_107 ?_
        refine lv_iconst (v := (1 : Int32)) C.1 C.2.1 dX0_lookAhead_108 (by decide) ?_
        refine lv_iadd C.1 C.2.1 dX0_lookAhead_109 ?_
        obtain ⟨r6, S6, h6, h⟩ := ob2_ok h
        refine hr_Si (v := r6) (S' := S6) (As := [.int (9999 : Int32), .int (v5 + (1 : Int32))]) (rest := [.int x2, .ref (E.2.1 1242)]) C (c_J9_min_7cf53 l E (9999 : Int32) (v5 + (1 : Int32)) _ _ h6) ys_J9_min_7cf53 lk_RX0_120 rfl rfl hl.1 (Nat.le_of_ble_eq_true rfl) (by decide) (by decide) hR (ho_A hR) dX0_lookAhead_110 (fun H locs hR => ?_)
        obtain ⟨S7, e7, hi7, h⟩ := stI_ok h
        refine hr_ist C hR aH_1242 hi7 e7 dX0_lookAhead_113 (fun H locs hR => ?_)
        refine lv_aload_n C.1 C.2.1 dX0_lookAhead_114 rfl (lv_at hl 0 rfl) ?_
        refine ho_getR (a' := 68) C cf0 fH_RX0_49 hR aH_60 rfl dX0_lookAhead_115 ?_
        refine lv_iload_n C.1 C.2.1 dX0_lookAhead_118 rfl (lv_at hl 2 rfl) ?_
        refine lv_aload_n C.1 C.2.1 dX0_lookAhead_119 rfl (lv_at hl 0 rfl) ?_
        refine ho_getR (a' := 50) C cf0 fH_RX0_63 hR aH_60 rfl dX0_lookAhead_120 ?_
        refine lv_aload_n C.1 C.2.1 dX0_lookAhead_123 rfl (lv_at hl 0 rfl) ?_
        refine ho_getR (a' := 1240) C cf0 fH_RX0_37 hR aH_60 rfl dX0_lookAhead_124 ?_
        refine lv_iload_n C.1 C.2.1 dX0_lookAhead_127 rfl (lv_at hl 2 rfl) ?_
        obtain ⟨r8, S8, h8, h⟩ := ob2_ok h
        refine hr_Vi (v := r8) (S' := S8) (As := [.ref (E.2.1 1240), .int x2]) (rest := [.int x2, .ref (E.2.1 68)]) C cf8 (c_X8_sightOfTrick l E 1240 x2 aH_1240 _ _ h8) yv_X8_sightOfTrick lk_RX0_113 rfl aH_50 rfl rfl hl.1 (Nat.le_of_ble_eq_true rfl) (by decide) (by decide) hR (ho_A hR) dX0_lookAhead_128 (fun H locs hR => ?_)
        obtain ⟨S9, e9, hi9, h⟩ := stI_ok h
        refine hr_ist C hR aH_68 hi9 e9 dX0_lookAhead_131 (fun H locs hR => ?_)
        exact w_X0_lookAhead_132 C (f_X0_lookAhead_31 k) ih x1 x2 S9 h _ _ _ hR (lv_sub hl [0, 1, 2] rfl)
def f_X0_lookAhead (x1 : Int32) (S : Hp) : Option Hp :=
  ob (f_X8_lookAtAll 1230 S) (fun S1 => cpI S1 51 6 (0 : Int32) 66 6 (0 : Int32) (6 : Int32) (fun S2 => f_X0_lookAhead_31 5000 x1 (0 : Int32) S2))
set_option maxHeartbeats 4000000 in
set_option maxRecDepth 100000 in
theorem c_X0_lookAhead (l : Launch) (E : Ev) (x1 : Int32) (S : Hp) (r : Hp) (h : f_X0_lookAhead x1 S = some r) : ho_M l yH E yX0_lookAhead cX0_lookAhead 3 none 5 [.ref (E.2.1 60), .int x1] S (none, r) := by
  refine ho_in (by decide) (Nat.le_of_ble_eq_true rfl) ?_
  intro p e s m args below meth c C hR ls hl
  have C : ho_I p s m args meth c RX0 cX0_lookAhead 3 none := C
  have hl : lv_has ls 3 [(0, .ref (E.2.1 60)), (1, .int x1)] := hl
  unfold f_X0_lookAhead at h
  refine lv_aload_n C.1 C.2.1 dX0_lookAhead_0 rfl (lv_at hl 0 rfl) ?_
  refine ho_getR (a' := 50) C cf0 fH_RX0_63 hR aH_60 rfl dX0_lookAhead_1 ?_
  refine lv_aload_n C.1 C.2.1 dX0_lookAhead_4 rfl (lv_at hl 0 rfl) ?_
  refine ho_getR (a' := 1230) C cf0 fH_RX0_34 hR aH_60 rfl dX0_lookAhead_5 ?_
  obtain ⟨S1, h1, h⟩ := ob_ok h
  refine hr_Vv (S' := S1) (As := [.ref (E.2.1 1230)]) (rest := []) C cf8 (c_X8_lookAtAll l E 1230 aH_1230 _ _ h1) yv_X8_lookAtAll lk_RX0_101 rfl aH_50 rfl rfl hl.1 (Nat.le_of_ble_eq_true rfl) (by decide) (by decide) hR (ho_A hR) dX0_lookAhead_8 (fun H locs hR => ?_)
  refine lv_aload_n C.1 C.2.1 dX0_lookAhead_11 rfl (lv_at hl 0 rfl) ?_
  refine ho_getR (a' := 50) C cf0 fH_RX0_63 hR aH_60 rfl dX0_lookAhead_12 ?_
  refine ho_getR (a' := 51) C cf8 fH_RX0_104 hR aH_50 rfl dX0_lookAhead_15 ?_
  refine lv_iconst (v := (0 : Int32)) C.1 C.2.1 dX0_lookAhead_18 (by decide) ?_
  refine lv_aload_n C.1 C.2.1 dX0_lookAhead_19 rfl (lv_at hl 0 rfl) ?_
  refine ho_getR (a' := 66) C cf0 fH_RX0_43 hR aH_60 rfl dX0_lookAhead_20 ?_
  refine lv_iconst (v := (0 : Int32)) C.1 C.2.1 dX0_lookAhead_23 (by decide) ?_
  refine lv_bipush (v := (6 : Int32)) C.1 C.2.1 dX0_lookAhead_24 (by decide) ?_
  obtain ⟨S2, e2, hh2, h⟩ := cpI_ok h
  refine hr_cpy C ac_RX0_107 hR aH_51 aH_66 hh2 e2 hl.1 (Nat.le_of_ble_eq_true rfl) (by decide) dX0_lookAhead_26 (fun H locs hR => ?_)
  refine lv_iconst (v := (0 : Int32)) C.1 C.2.1 dX0_lookAhead_29 (by decide) ?_
  refine lv_istore_n (lv' := [(2, .int (0 : Int32)), (0, .ref (E.2.1 60)), (1, .int x1)]) C.1 C.2.1 dX0_lookAhead_30 rfl hl (by decide) rfl (fun ls hl => ?_)
  exact w_X0_lookAhead_31 C 5000 x1 (0 : Int32) S2 h _ _ _ hR (lv_sub hl [1, 2, 0] rfl)
theorem dX0_pairWith_0 : decode cX0_pairWith 0 = .ok (.iconst 0, 1) := by decide +kernel
theorem dX0_pairWith_1 : decode cX0_pairWith 1 = .ok (.istore_n 2, 1) := by decide +kernel
theorem dX0_pairWith_2 : decode cX0_pairWith 2 = .ok (.iload_n 2, 1) := by decide +kernel
theorem dX0_pairWith_3 : decode cX0_pairWith 3 = .ok (.bipush 6, 2) := by decide +kernel
theorem dX0_pairWith_5 : decode cX0_pairWith 5 = .ok (.if_icmp .ge 39, 3) := by decide +kernel
theorem dX0_pairWith_8 : decode cX0_pairWith 8 = .ok (.aload_n 0, 1) := by decide +kernel
theorem dX0_pairWith_9 : decode cX0_pairWith 9 = .ok (.getfield 52, 3) := by decide +kernel
theorem dX0_pairWith_12 : decode cX0_pairWith 12 = .ok (.iload_n 2, 1) := by decide +kernel
theorem dX0_pairWith_13 : decode cX0_pairWith 13 = .ok (.iload_n 1, 1) := by decide +kernel
theorem dX0_pairWith_14 : decode cX0_pairWith 14 = .ok (.iload_n 2, 1) := by decide +kernel
theorem dX0_pairWith_15 : decode cX0_pairWith 15 = .ok (.ishr, 1) := by decide +kernel
theorem dX0_pairWith_16 : decode cX0_pairWith 16 = .ok (.iconst 1, 1) := by decide +kernel
theorem dX0_pairWith_17 : decode cX0_pairWith 17 = .ok (.iand, 1) := by decide +kernel
theorem dX0_pairWith_18 : decode cX0_pairWith 18 = .ok (.iconst 1, 1) := by decide +kernel
theorem dX0_pairWith_19 : decode cX0_pairWith 19 = .ok (.if_icmp .ne 12, 3) := by decide +kernel
theorem dX0_pairWith_22 : decode cX0_pairWith 22 = .ok (.aload_n 0, 1) := by decide +kernel
theorem dX0_pairWith_23 : decode cX0_pairWith 23 = .ok (.getfield 49, 3) := by decide +kernel
theorem dX0_pairWith_26 : decode cX0_pairWith 26 = .ok (.iload_n 2, 1) := by decide +kernel
theorem dX0_pairWith_27 : decode cX0_pairWith 27 = .ok (.iaload, 1) := by decide +kernel
theorem dX0_pairWith_28 : decode cX0_pairWith 28 = .ok (.goto 9, 3) := by decide +kernel
theorem dX0_pairWith_31 : decode cX0_pairWith 31 = .ok (.aload_n 0, 1) := by decide +kernel
theorem dX0_pairWith_32 : decode cX0_pairWith 32 = .ok (.getfield 46, 3) := by decide +kernel
theorem dX0_pairWith_35 : decode cX0_pairWith 35 = .ok (.iload_n 2, 1) := by decide +kernel
theorem dX0_pairWith_36 : decode cX0_pairWith 36 = .ok (.iaload, 1) := by decide +kernel
theorem dX0_pairWith_37 : decode cX0_pairWith 37 = .ok (.iastore, 1) := by decide +kernel
theorem dX0_pairWith_38 : decode cX0_pairWith 38 = .ok (.iinc 2 1, 3) := by decide +kernel
theorem dX0_pairWith_41 : decode cX0_pairWith 41 = .ok (.goto (-39), 3) := by decide +kernel
theorem dX0_pairWith_44 : decode cX0_pairWith 44 = .ok (.aload_n 0, 1) := by decide +kernel
theorem dX0_pairWith_45 : decode cX0_pairWith 45 = .ok (.getfield 63, 3) := by decide +kernel
theorem dX0_pairWith_48 : decode cX0_pairWith 48 = .ok (.aload_n 0, 1) := by decide +kernel
theorem dX0_pairWith_49 : decode cX0_pairWith 49 = .ok (.getfield 37, 3) := by decide +kernel
theorem dX0_pairWith_52 : decode cX0_pairWith 52 = .ok (.invokevirtual 87, 3) := by decide +kernel
theorem dX0_pairWith_55 : decode cX0_pairWith 55 = .ok (.istore_n 2, 1) := by decide +kernel
theorem dX0_pairWith_56 : decode cX0_pairWith 56 = .ok (.iconst 0, 1) := by decide +kernel
theorem dX0_pairWith_57 : decode cX0_pairWith 57 = .ok (.istore_n 3, 1) := by decide +kernel
theorem dX0_pairWith_58 : decode cX0_pairWith 58 = .ok (.iload_n 3, 1) := by decide +kernel
theorem dX0_pairWith_59 : decode cX0_pairWith 59 = .ok (.iload_n 2, 1) := by decide +kernel
theorem dX0_pairWith_60 : decode cX0_pairWith 60 = .ok (.if_icmp .gt 133, 3) := by decide +kernel
theorem dX0_pairWith_63 : decode cX0_pairWith 63 = .ok (.iload_n 3, 1) := by decide +kernel
theorem dX0_pairWith_64 : decode cX0_pairWith 64 = .ok (.iload_n 2, 1) := by decide +kernel
theorem dX0_pairWith_65 : decode cX0_pairWith 65 = .ok (.iconst (-1), 1) := by decide +kernel
theorem dX0_pairWith_66 : decode cX0_pairWith 66 = .ok (.ixor, 1) := by decide +kernel
theorem dX0_pairWith_67 : decode cX0_pairWith 67 = .ok (.iand, 1) := by decide +kernel
theorem dX0_pairWith_68 : decode cX0_pairWith 68 = .ok (.ifCond .ne 119, 3) := by decide +kernel
theorem dX0_pairWith_71 : decode cX0_pairWith 71 = .ok (.aload_n 0, 1) := by decide +kernel
theorem dX0_pairWith_72 : decode cX0_pairWith 72 = .ok (.getfield 40, 3) := by decide +kernel
theorem dX0_pairWith_75 : decode cX0_pairWith 75 = .ok (.aload_n 0, 1) := by decide +kernel
theorem dX0_pairWith_76 : decode cX0_pairWith 76 = .ok (.getfield 37, 3) := by decide +kernel
theorem dX0_pairWith_79 : decode cX0_pairWith 79 = .ok (.invokevirtual 70, 3) := by decide +kernel
theorem dX0_pairWith_82 : decode cX0_pairWith 82 = .ok (.aload_n 0, 1) := by decide +kernel
theorem dX0_pairWith_83 : decode cX0_pairWith 83 = .ok (.getfield 63, 3) := by decide +kernel
theorem dX0_pairWith_86 : decode cX0_pairWith 86 = .ok (.aload_n 0, 1) := by decide +kernel
theorem dX0_pairWith_87 : decode cX0_pairWith 87 = .ok (.getfield 40, 3) := by decide +kernel
theorem dX0_pairWith_90 : decode cX0_pairWith 90 = .ok (.iload_n 3, 1) := by decide +kernel
theorem dX0_pairWith_91 : decode cX0_pairWith 91 = .ok (.aload_n 0, 1) := by decide +kernel
theorem dX0_pairWith_92 : decode cX0_pairWith 92 = .ok (.getfield 52, 3) := by decide +kernel
theorem dX0_pairWith_95 : decode cX0_pairWith 95 = .ok (.invokevirtual 94, 3) := by decide +kernel
theorem dX0_pairWith_98 : decode cX0_pairWith 98 = .ok (.pop, 1) := by decide +kernel
theorem dX0_pairWith_99 : decode cX0_pairWith 99 = .ok (.aload_n 0, 1) := by decide +kernel
theorem dX0_pairWith_100 : decode cX0_pairWith 100 = .ok (.getfield 40, 3) := by decide +kernel
theorem dX0_pairWith_103 : decode cX0_pairWith 103 = .ok (.getfield 126, 3) := by decide +kernel
theorem dX0_pairWith_106 : decode cX0_pairWith 106 = .ok (.aload_n 0, 1) := by decide +kernel
theorem dX0_pairWith_107 : decode cX0_pairWith 107 = .ok (.getfield 24, 3) := by decide +kernel
theorem dX0_pairWith_110 : decode cX0_pairWith 110 = .ok (.iconst 2, 1) := by decide +kernel
theorem dX0_pairWith_111 : decode cX0_pairWith 111 = .ok (.iaload, 1) := by decide +kernel
theorem dX0_pairWith_112 : decode cX0_pairWith 112 = .ok (.if_icmp .lt 35, 3) := by decide +kernel
theorem dX0_pairWith_115 : decode cX0_pairWith 115 = .ok (.aload_n 0, 1) := by decide +kernel
theorem dX0_pairWith_116 : decode cX0_pairWith 116 = .ok (.getfield 40, 3) := by decide +kernel
theorem dX0_pairWith_119 : decode cX0_pairWith 119 = .ok (.getfield 126, 3) := by decide +kernel
theorem dX0_pairWith_122 : decode cX0_pairWith 122 = .ok (.aload_n 0, 1) := by decide +kernel
theorem dX0_pairWith_123 : decode cX0_pairWith 123 = .ok (.getfield 24, 3) := by decide +kernel
theorem dX0_pairWith_126 : decode cX0_pairWith 126 = .ok (.iconst 2, 1) := by decide +kernel
theorem dX0_pairWith_127 : decode cX0_pairWith 127 = .ok (.iaload, 1) := by decide +kernel
theorem dX0_pairWith_128 : decode cX0_pairWith 128 = .ok (.if_icmp .ne 59, 3) := by decide +kernel
theorem dX0_pairWith_131 : decode cX0_pairWith 131 = .ok (.aload_n 0, 1) := by decide +kernel
theorem dX0_pairWith_132 : decode cX0_pairWith 132 = .ok (.getfield 40, 3) := by decide +kernel
theorem dX0_pairWith_135 : decode cX0_pairWith 135 = .ok (.getfield 129, 3) := by decide +kernel
theorem dX0_pairWith_138 : decode cX0_pairWith 138 = .ok (.aload_n 0, 1) := by decide +kernel
theorem dX0_pairWith_139 : decode cX0_pairWith 139 = .ok (.getfield 24, 3) := by decide +kernel
theorem dX0_pairWith_142 : decode cX0_pairWith 142 = .ok (.iconst 3, 1) := by decide +kernel
theorem dX0_pairWith_143 : decode cX0_pairWith 143 = .ok (.iaload, 1) := by decide +kernel
theorem dX0_pairWith_144 : decode cX0_pairWith 144 = .ok (.if_icmp .le 43, 3) := by decide +kernel
theorem dX0_pairWith_147 : decode cX0_pairWith 147 = .ok (.aload_n 0, 1) := by decide +kernel
theorem dX0_pairWith_148 : decode cX0_pairWith 148 = .ok (.getfield 24, 3) := by decide +kernel
theorem dX0_pairWith_151 : decode cX0_pairWith 151 = .ok (.iconst 0, 1) := by decide +kernel
theorem dX0_pairWith_152 : decode cX0_pairWith 152 = .ok (.iload_n 1, 1) := by decide +kernel
theorem dX0_pairWith_153 : decode cX0_pairWith 153 = .ok (.iastore, 1) := by decide +kernel
theorem dX0_pairWith_154 : decode cX0_pairWith 154 = .ok (.aload_n 0, 1) := by decide +kernel
theorem dX0_pairWith_155 : decode cX0_pairWith 155 = .ok (.getfield 24, 3) := by decide +kernel
theorem dX0_pairWith_158 : decode cX0_pairWith 158 = .ok (.iconst 1, 1) := by decide +kernel
theorem dX0_pairWith_159 : decode cX0_pairWith 159 = .ok (.iload_n 3, 1) := by decide +kernel
theorem dX0_pairWith_160 : decode cX0_pairWith 160 = .ok (.iastore, 1) := by decide +kernel
theorem dX0_pairWith_161 : decode cX0_pairWith 161 = .ok (.aload_n 0, 1) := by decide +kernel
theorem dX0_pairWith_162 : decode cX0_pairWith 162 = .ok (.getfield 24, 3) := by decide +kernel
theorem dX0_pairWith_165 : decode cX0_pairWith 165 = .ok (.iconst 2, 1) := by decide +kernel
theorem dX0_pairWith_166 : decode cX0_pairWith 166 = .ok (.aload_n 0, 1) := by decide +kernel
theorem dX0_pairWith_167 : decode cX0_pairWith 167 = .ok (.getfield 40, 3) := by decide +kernel
theorem dX0_pairWith_170 : decode cX0_pairWith 170 = .ok (.getfield 126, 3) := by decide +kernel
theorem dX0_pairWith_173 : decode cX0_pairWith 173 = .ok (.iastore, 1) := by decide +kernel
theorem dX0_pairWith_174 : decode cX0_pairWith 174 = .ok (.aload_n 0, 1) := by decide +kernel
theorem dX0_pairWith_175 : decode cX0_pairWith 175 = .ok (.getfield 24, 3) := by decide +kernel
theorem dX0_pairWith_178 : decode cX0_pairWith 178 = .ok (.iconst 3, 1) := by decide +kernel
theorem dX0_pairWith_179 : decode cX0_pairWith 179 = .ok (.aload_n 0, 1) := by decide +kernel
theorem dX0_pairWith_180 : decode cX0_pairWith 180 = .ok (.getfield 40, 3) := by decide +kernel
theorem dX0_pairWith_183 : decode cX0_pairWith 183 = .ok (.getfield 129, 3) := by decide +kernel
theorem dX0_pairWith_186 : decode cX0_pairWith 186 = .ok (.iastore, 1) := by decide +kernel
theorem dX0_pairWith_187 : decode cX0_pairWith 187 = .ok (.iinc 3 1, 3) := by decide +kernel
theorem dX0_pairWith_190 : decode cX0_pairWith 190 = .ok (.goto (-132), 3) := by decide +kernel
theorem dX0_pairWith_193 : decode cX0_pairWith 193 = .ok (.return_, 1) := by decide +kernel
def f_X0_pairWith_187 (K58 : Int32 → Int32 → Int32 → Hp → Option Hp) (x1 : Int32) (x2 : Int32) (x3 : Int32) (S : Hp) : Option Hp :=
  le1 (x3 + (1 : Int32)) (fun v1 => K58 x1 x2 v1 S)
set_option maxHeartbeats 4000000 in
set_option maxRecDepth 100000 in
theorem w_X0_pairWith_187 {p : Program} {l : Launch} {e : Env} {s : State} {m : MethodId} {args : Array Value} {below : List Frame} {meth : Method} {c : Code} {E : Ev} {S0 : Hp} {r : Hp} (C : ho_I p s m args meth c RX0 cX0_pairWith 4 none) (K58 : Int32 → Int32 → Int32 → Hp → Option Hp) (hK58 : ∀ (y1 : Int32) (y2 : Int32) (y3 : Int32) (S : Hp), K58 y1 y2 y3 S = some r → ho_G p l e s m args below meth c yH E S0 5 4 (none, r) 58 [(0, .ref (E.2.1 60)), (1, .int y1), (2, .int y2), (3, .int y3)] [] S) :
    ∀ (x1 : Int32) (x2 : Int32) (x3 : Int32) (S : Hp), f_X0_pairWith_187 K58 x1 x2 x3 S = some r → ho_G p l e s m args below meth c yH E S0 5 4 (none, r) 187 [(0, .ref (E.2.1 60)), (1, .int x1), (2, .int x2), (3, .int x3)] [] S := by
  intro x1 x2 x3 S h H locs ls hR hl
  unfold f_X0_pairWith_187 at h
  obtain ⟨v1, e1, h⟩ := le1_ok h
  refine lv_iinc (v := v1) (lv' := [(3, .int v1), (0, .ref (E.2.1 60)), (1, .int x1), (2, .int x2)]) C.1 C.2.1 dX0_pairWith_187 hl (k := 3) rfl (by rw [e1]; rfl) (by decide) rfl (fun ls hl => ?_)
  refine lv_goto (tgt := 58) C.1 C.2.1 dX0_pairWith_190 (by decide) ?_
  exact hK58 x1 x2 v1 S h _ _ _ hR (lv_sub hl [1, 2, 3, 0] rfl)
def f_X0_pairWith_147 (K58 : Int32 → Int32 → Int32 → Hp → Option Hp) (x1 : Int32) (x2 : Int32) (x3 : Int32) (S : Hp) : Option Hp :=
  stI S 65 4 (0 : Int32) x1 (fun S1 => stI S1 65 4 (1 : Int32) x3 (fun S2 => stI S2 65 4 (2 : Int32) (S2.1 1250 1) (fun S3 => stI S3 65 4 (3 : Int32) (S3.1 1250 2) (fun S4 => f_X0_pairWith_187 K58 x1 x2 x3 S4))))
set_option maxHeartbeats 4000000 in
set_option maxRecDepth 100000 in
theorem w_X0_pairWith_147 {p : Program} {l : Launch} {e : Env} {s : State} {m : MethodId} {args : Array Value} {below : List Frame} {meth : Method} {c : Code} {E : Ev} {S0 : Hp} {r : Hp} (C : ho_I p s m args meth c RX0 cX0_pairWith 4 none) (K58 : Int32 → Int32 → Int32 → Hp → Option Hp) (hK58 : ∀ (y1 : Int32) (y2 : Int32) (y3 : Int32) (S : Hp), K58 y1 y2 y3 S = some r → ho_G p l e s m args below meth c yH E S0 5 4 (none, r) 58 [(0, .ref (E.2.1 60)), (1, .int y1), (2, .int y2), (3, .int y3)] [] S) :
    ∀ (x1 : Int32) (x2 : Int32) (x3 : Int32) (S : Hp), f_X0_pairWith_147 K58 x1 x2 x3 S = some r → ho_G p l e s m args below meth c yH E S0 5 4 (none, r) 147 [(0, .ref (E.2.1 60)), (1, .int x1), (2, .int x2), (3, .int x3)] [] S := by
  intro x1 x2 x3 S h H locs ls hR hl
  unfold f_X0_pairWith_147 at h
  refine lv_aload_n C.1 C.2.1 dX0_pairWith_147 rfl (lv_at hl 0 rfl) ?_
  refine ho_getR (a' := 65) C cf0 fH_RX0_24 hR aH_60 rfl dX0_pairWith_148 ?_
  refine lv_iconst (v := (0 : Int32)) C.1 C.2.1 dX0_pairWith_151 (by decide) ?_
  refine lv_iload_n C.1 C.2.1 dX0_pairWith_152 rfl (lv_at hl 1 rfl) ?_
  obtain ⟨S1, e1, hi1, h⟩ := stI_ok h
  refine hr_ist C hR aH_65 hi1 e1 dX0_pairWith_153 (fun H locs hR => ?_)
  refine lv_aload_n C.1 C.2.1 dX0_pairWith_154 rfl (lv_at hl 0 rfl) ?_
  refine ho_getR (a' := 65) C cf0 fH_RX0_24 hR aH_60 rfl dX0_pairWith_155 ?_
  refine lv_iconst (v := (1 : Int32)) C.1 C.2.1 dX0_pairWith_158 (by decide) ?_
  refine lv_iload_n C.1 C.2.1 dX0_pairWith_159 rfl (lv_at hl 3 rfl) ?_
  obtain ⟨S2, e2, hi2, h⟩ := stI_ok h
  refine hr_ist C hR aH_65 hi2 e2 dX0_pairWith_160 (fun H locs hR => ?_)
  refine lv_aload_n C.1 C.2.1 dX0_pairWith_161 rfl (lv_at hl 0 rfl) ?_
  refine ho_getR (a' := 65) C cf0 fH_RX0_24 hR aH_60 rfl dX0_pairWith_162 ?_
  refine lv_iconst (v := (2 : Int32)) C.1 C.2.1 dX0_pairWith_165 (by decide) ?_
  refine lv_aload_n C.1 C.2.1 dX0_pairWith_166 rfl (lv_at hl 0 rfl) ?_
  refine ho_getR (a' := 1250) C cf0 fH_RX0_40 hR aH_60 rfl dX0_pairWith_167 ?_
  refine ho_getI C cf9 fH_RX0_126 hR aH_1250 dX0_pairWith_170 ?_
  obtain ⟨S3, e3, hi3, h⟩ := stI_ok h
  refine hr_ist C hR aH_65 hi3 e3 dX0_pairWith_173 (fun H locs hR => ?_)
  refine lv_aload_n C.1 C.2.1 dX0_pairWith_174 rfl (lv_at hl 0 rfl) ?_
  refine ho_getR (a' := 65) C cf0 fH_RX0_24 hR aH_60 rfl dX0_pairWith_175 ?_
  refine lv_iconst (v := (3 : Int32)) C.1 C.2.1 dX0_pairWith_178 (by decide) ?_
  refine lv_aload_n C.1 C.2.1 dX0_pairWith_179 rfl (lv_at hl 0 rfl) ?_
  refine ho_getR (a' := 1250) C cf0 fH_RX0_40 hR aH_60 rfl dX0_pairWith_180 ?_
  refine ho_getI C cf9 fH_RX0_129 hR aH_1250 dX0_pairWith_183 ?_
  obtain ⟨S4, e4, hi4, h⟩ := stI_ok h
  refine hr_ist C hR aH_65 hi4 e4 dX0_pairWith_186 (fun H locs hR => ?_)
  exact w_X0_pairWith_187 C K58 hK58 x1 x2 x3 S4 h _ _ _ hR (lv_sub hl [0, 1, 2, 3] rfl)
def f_X0_pairWith_58 : Nat → Int32 → Int32 → Int32 → Hp → Option Hp
  | 0, _, _, _, _ => none
  | k + 1, x1, x2, x3, S => if x2 < x3 then some S else if (x3 &&& (x2 ^^^ (-1 : Int32))) = 0 then ob (f_X9_copy 1250 1240 S) (fun S1 => ob2 (f_X8_give 1250 x3 69 6 S1) (fun r2 S2 => ldI S2 65 4 (2 : Int32) (fun v3 => if (S2.1 1250 1) < v3 then f_X0_pairWith_147 (f_X0_pairWith_58 k) x1 x2 x3 S2 else ldI S2 65 4 (2 : Int32) (fun v4 => if (S2.1 1250 1) = v4 then ldI S2 65 4 (3 : Int32) (fun v5 => if (S2.1 1250 2) ≤ v5 then f_X0_pairWith_187 (f_X0_pairWith_58 k) x1 x2 x3 S2 else f_X0_pairWith_147 (f_X0_pairWith_58 k) x1 x2 x3 S2) else f_X0_pairWith_187 (f_X0_pairWith_58 k) x1 x2 x3 S2)))) else f_X0_pairWith_187 (f_X0_pairWith_58 k) x1 x2 x3 S
set_option maxHeartbeats 4000000 in
set_option maxRecDepth 100000 in
theorem w_X0_pairWith_58 {p : Program} {l : Launch} {e : Env} {s : State} {m : MethodId} {args : Array Value} {below : List Frame} {meth : Method} {c : Code} {E : Ev} {S0 : Hp} {r : Hp} (C : ho_I p s m args meth c RX0 cX0_pairWith 4 none) :
    ∀ (k : Nat) (x1 : Int32) (x2 : Int32) (x3 : Int32) (S : Hp), f_X0_pairWith_58 k x1 x2 x3 S = some r → ho_G p l e s m args below meth c yH E S0 5 4 (none, r) 58 [(0, .ref (E.2.1 60)), (1, .int x1), (2, .int x2), (3, .int x3)] [] S := by
  intro k
  induction k with
  | zero =>
    intro x1 x2 x3 S h
    exact absurd (show (none : Option Hp) = some r from h) (by simp)
  | succ k ih =>
    intro x1 x2 x3 S h H locs ls hR hl
    rw [f_X0_pairWith_58] at h
    refine lv_iload_n C.1 C.2.1 dX0_pairWith_58 rfl (lv_at hl 3 rfl) ?_
    refine lv_iload_n C.1 C.2.1 dX0_pairWith_59 rfl (lv_at hl 2 rfl) ?_
    refine lv_icmp_gt (tgt := 193) C.1 C.2.1 dX0_pairWith_60 (by decide) (fun hc => ?_) (fun hc => ?_)
    · replace h := if_t h hc
      exact ho_vret C hR h dX0_pairWith_193
    · replace h := if_f h hc
      refine lv_iload_n C.1 C.2.1 dX0_pairWith_63 rfl (lv_at hl 3 rfl) ?_
      refine lv_iload_n C.1 C.2.1 dX0_pairWith_64 rfl (lv_at hl 2 rfl) ?_
      refine lv_iconst (v := (-1 : Int32)) C.1 C.2.1 dX0_pairWith_65 (by decide) ?_
      refine lv_ixor C.1 C.2.1 dX0_pairWith_66 ?_
      refine lv_iand C.1 C.2.1 dX0_pairWith_67 ?_
      refine lv_if_ne (tgt := 187) C.1 C.2.1 dX0_pairWith_68 (by decide) (fun hc => ?_) (fun hc => ?_)
      · replace h := if_f h hc
        exact w_X0_pairWith_187 C (f_X0_pairWith_58 k) ih x1 x2 x3 S h _ _ _ hR (lv_sub hl [0, 1, 2, 3] rfl)
      · replace h := if_t h hc
        refine lv_aload_n C.1 C.2.1 dX0_pairWith_71 rfl (lv_at hl 0 rfl) ?_
        refine ho_getR (a' := 1250) C cf0 fH_RX0_40 hR aH_60 rfl dX0_pairWith_72 ?_
        refine lv_aload_n C.1 C.2.1 dX0_pairWith_75 rfl (lv_at hl 0 rfl) ?_
        refine ho_getR (a' := 1240) C cf0 fH_RX0_37 hR aH_60 rfl dX0_pairWith_76 ?_
        obtain ⟨S1, h1, h⟩ := ob_ok h
        refine hr_Vv (S' := S1) (As := [.ref (E.2.1 1240)]) (rest := []) C cf9 (c_X9_copy l E 1250 1240 aH_1250 aH_1240 _ _ h1) yv_X9_copy lk_RX0_70 rfl aH_1250 rfl rfl hl.1 (Nat.le_of_ble_eq_true rfl) (by decide) (by decide) hR (ho_A hR) dX0_pairWith_79 (fun H locs hR => ?_)
        refine lv_aload_n C.1 C.2.1 dX0_pairWith_82 rfl (lv_at hl 0 rfl) ?_
        refine ho_getR (a' := 50) C cf0 fH_RX0_63 hR aH_60 rfl dX0_pairWith_83 ?_
        refine lv_aload_n C.1 C.2.1 dX0_pairWith_86 rfl (lv_at hl 0 rfl) ?_
        refine ho_getR (a' := 1250) C cf0 fH_RX0_40 hR aH_60 rfl dX0_pairWith_87 ?_
        refine lv_iload_n C.1 C.2.1 dX0_pairWith_90 rfl (lv_at hl 3 rfl) ?_
        refine lv_aload_n C.1 C.2.1 dX0_pairWith_91 rfl (lv_at hl 0 rfl) ?_
        refine ho_getR (a' := 69) C cf0 fH_RX0_52 hR aH_60 rfl dX0_pairWith_92 ?_
        obtain ⟨r2, S2, h2, h⟩ := ob2_ok h
        refine hr_Vi (v := r2) (S' := S2) (As := [.ref (E.2.1 1250), .int x3, .ref (E.2.1 69)]) (rest := []) C cf8 (c_X8_give l E 1250 x3 69 6 aH_1250 aH_69 _ _ h2) yv_X8_give lk_RX0_94 rfl aH_50 rfl rfl hl.1 (Nat.le_of_ble_eq_true rfl) (by decide) (by decide) hR (ho_A hR) dX0_pairWith_95 (fun H locs hR => ?_)
        refine lv_pop C.1 C.2.1 dX0_pairWith_98 rfl ?_
        refine lv_aload_n C.1 C.2.1 dX0_pairWith_99 rfl (lv_at hl 0 rfl) ?_
        refine ho_getR (a' := 1250) C cf0 fH_RX0_40 hR aH_60 rfl dX0_pairWith_100 ?_
        refine ho_getI C cf9 fH_RX0_126 hR aH_1250 dX0_pairWith_103 ?_
        refine lv_aload_n C.1 C.2.1 dX0_pairWith_106 rfl (lv_at hl 0 rfl) ?_
        refine ho_getR (a' := 65) C cf0 fH_RX0_24 hR aH_60 rfl dX0_pairWith_107 ?_
        refine lv_iconst (v := (2 : Int32)) C.1 C.2.1 dX0_pairWith_110 (by decide) ?_
        obtain ⟨v3, e3, hi3, h⟩ := ldI_ok h
        refine hr_ild C hR aH_65 hi3 e3 dX0_pairWith_111 ?_
        refine lv_icmp_lt (tgt := 147) C.1 C.2.1 dX0_pairWith_112 (by decide) (fun hc => ?_) (fun hc => ?_)
        · replace h := if_t h hc
          exact w_X0_pairWith_147 C (f_X0_pairWith_58 k) ih x1 x2 x3 S2 h _ _ _ hR (lv_sub hl [0, 1, 2, 3] rfl)
        · replace h := if_f h hc
          refine lv_aload_n C.1 C.2.1 dX0_pairWith_115 rfl (lv_at hl 0 rfl) ?_
          refine ho_getR (a' := 1250) C cf0 fH_RX0_40 hR aH_60 rfl dX0_pairWith_116 ?_
          refine ho_getI C cf9 fH_RX0_126 hR aH_1250 dX0_pairWith_119 ?_
          refine lv_aload_n C.1 C.2.1 dX0_pairWith_122 rfl (lv_at hl 0 rfl) ?_
          refine ho_getR (a' := 65) C cf0 fH_RX0_24 hR aH_60 rfl dX0_pairWith_123 ?_
          refine lv_iconst (v := (2 : Int32)) C.1 C.2.1 dX0_pairWith_126 (by decide) ?_
          obtain ⟨v4, e4, hi4, h⟩ := ldI_ok h
          refine hr_ild C hR aH_65 hi4 e4 dX0_pairWith_127 ?_
          refine lv_icmp_ne (tgt := 187) C.1 C.2.1 dX0_pairWith_128 (by decide) (fun hc => ?_) (fun hc => ?_)
          · replace h := if_f h hc
            exact w_X0_pairWith_187 C (f_X0_pairWith_58 k) ih x1 x2 x3 S2 h _ _ _ hR (lv_sub hl [0, 1, 2, 3] rfl)
          · replace h := if_t h hc
            refine lv_aload_n C.1 C.2.1 dX0_pairWith_131 rfl (lv_at hl 0 rfl) ?_
            refine ho_getR (a' := 1250) C cf0 fH_RX0_40 hR aH_60 rfl dX0_pairWith_132 ?_
            refine ho_getI C cf9 fH_RX0_129 hR aH_1250 dX0_pairWith_135 ?_
            refine lv_aload_n C.1 C.2.1 dX0_pairWith_138 rfl (lv_at hl 0 rfl) ?_
            refine ho_getR (a' := 65) C cf0 fH_RX0_24 hR aH_60 rfl dX0_pairWith_139 ?_
            refine lv_iconst (v := (3 : Int32)) C.1 C.2.1 dX0_pairWith_142 (by decide) ?_
            obtain ⟨v5, e5, hi5, h⟩ := ldI_ok h
            refine hr_ild C hR aH_65 hi5 e5 dX0_pairWith_143 ?_
            refine lv_icmp_le (tgt := 187) C.1 C.2.1 dX0_pairWith_144 (by decide) (fun hc => ?_) (fun hc => ?_)
            · replace h := if_t h hc
              exact w_X0_pairWith_187 C (f_X0_pairWith_58 k) ih x1 x2 x3 S2 h _ _ _ hR (lv_sub hl [0, 1, 2, 3] rfl)
            · replace h := if_f h hc
              exact w_X0_pairWith_147 C (f_X0_pairWith_58 k) ih x1 x2 x3 S2 h _ _ _ hR (lv_sub hl [0, 1, 2, 3] rfl)
def f_X0_pairWith_37 (K2 : Int32 → Int32 → Hp → Option Hp) (x1 : Int32) (x2 : Int32) (z1 : Int32) (z2 : Int32) (S : Hp) : Option Hp :=
  stI S 69 6 z1 z2 (fun S1 => le1 (x2 + (1 : Int32)) (fun v2 => K2 x1 v2 S1))
set_option maxHeartbeats 4000000 in
set_option maxRecDepth 100000 in
theorem w_X0_pairWith_37 {p : Program} {l : Launch} {e : Env} {s : State} {m : MethodId} {args : Array Value} {below : List Frame} {meth : Method} {c : Code} {E : Ev} {S0 : Hp} {r : Hp} (C : ho_I p s m args meth c RX0 cX0_pairWith 4 none) (K2 : Int32 → Int32 → Hp → Option Hp) (hK2 : ∀ (y1 : Int32) (y2 : Int32) (S : Hp), K2 y1 y2 S = some r → ho_G p l e s m args below meth c yH E S0 5 4 (none, r) 2 [(0, .ref (E.2.1 60)), (1, .int y1), (2, .int y2)] [] S) :
    ∀ (x1 : Int32) (x2 : Int32) (z1 : Int32) (z2 : Int32) (S : Hp), f_X0_pairWith_37 K2 x1 x2 z1 z2 S = some r → ho_G p l e s m args below meth c yH E S0 5 4 (none, r) 37 [(0, .ref (E.2.1 60)), (1, .int x1), (2, .int x2)] [.int z2, .int z1, .ref (E.2.1 69)] S := by
  intro x1 x2 z1 z2 S h H locs ls hR hl
  unfold f_X0_pairWith_37 at h
  obtain ⟨S1, e1, hi1, h⟩ := stI_ok h
  refine hr_ist C hR aH_69 hi1 e1 dX0_pairWith_37 (fun H locs hR => ?_)
  obtain ⟨v2, e2, h⟩ := le1_ok h
  refine lv_iinc (v := v2) (lv' := [(2, .int v2), (0, .ref (E.2.1 60)), (1, .int x1)]) C.1 C.2.1 dX0_pairWith_38 hl (k := 2) rfl (by rw [e2]; rfl) (by decide) rfl (fun ls hl => ?_)
  refine lv_goto (tgt := 2) C.1 C.2.1 dX0_pairWith_41 (by decide) ?_
  exact hK2 x1 v2 S1 h _ _ _ hR (lv_sub hl [1, 2, 0] rfl)
def f_X0_pairWith_2 : Nat → Int32 → Int32 → Hp → Option Hp
  | 0, _, _, _ => none
  | k + 1, x1, x2, S => if (6 : Int32) ≤ x2 then ob2 (f_X8_showable 1240 S) (fun r1 S1 => f_X0_pairWith_58 5000 x1 r1 (0 : Int32) S1) else if ((x1 >>> (x2 &&& 31)) &&& (1 : Int32)) = (1 : Int32) then ldI S 68 6 x2 (fun v3 => f_X0_pairWith_37 (f_X0_pairWith_2 k) x1 x2 x2 v3 S) else ldI S 67 6 x2 (fun v2 => f_X0_pairWith_37 (f_X0_pairWith_2 k) x1 x2 x2 v2 S)
set_option maxHeartbeats 4000000 in
set_option maxRecDepth 100000 in
theorem w_X0_pairWith_2 {p : Program} {l : Launch} {e : Env} {s : State} {m : MethodId} {args : Array Value} {below : List Frame} {meth : Method} {c : Code} {E : Ev} {S0 : Hp} {r : Hp} (C : ho_I p s m args meth c RX0 cX0_pairWith 4 none) :
    ∀ (k : Nat) (x1 : Int32) (x2 : Int32) (S : Hp), f_X0_pairWith_2 k x1 x2 S = some r → ho_G p l e s m args below meth c yH E S0 5 4 (none, r) 2 [(0, .ref (E.2.1 60)), (1, .int x1), (2, .int x2)] [] S := by
  intro k
  induction k with
  | zero =>
    intro x1 x2 S h
    exact absurd (show (none : Option Hp) = some r from h) (by simp)
  | succ k ih =>
    intro x1 x2 S h H locs ls hR hl
    rw [f_X0_pairWith_2] at h
    refine lv_iload_n C.1 C.2.1 dX0_pairWith_2 rfl (lv_at hl 2 rfl) ?_
    refine lv_bipush (v := (6 : Int32)) C.1 C.2.1 dX0_pairWith_3 (by decide) ?_
    refine lv_icmp_ge (tgt := 44) C.1 C.2.1 dX0_pairWith_5 (by decide) (fun hc => ?_) (fun hc => ?_)
    · replace h := if_t h hc
      refine lv_aload_n C.1 C.2.1 dX0_pairWith_44 rfl (lv_at hl 0 rfl) ?_
      refine ho_getR (a' := 50) C cf0 fH_RX0_63 hR aH_60 rfl dX0_pairWith_45 ?_
      refine lv_aload_n C.1 C.2.1 dX0_pairWith_48 rfl (lv_at hl 0 rfl) ?_
      refine ho_getR (a' := 1240) C cf0 fH_RX0_37 hR aH_60 rfl dX0_pairWith_49 ?_
      obtain ⟨r1, S1, h1, h⟩ := ob2_ok h
      refine hr_Vi (v := r1) (S' := S1) (As := [.ref (E.2.1 1240)]) (rest := []) C cf8 (c_X8_showable l E 1240 aH_1240 _ _ h1) yv_X8_showable lk_RX0_87 rfl aH_50 rfl rfl hl.1 (Nat.le_of_ble_eq_true rfl) (by decide) (by decide) hR (ho_A hR) dX0_pairWith_52 (fun H locs hR => ?_)
      refine lv_istore_n (lv' := [(2, .int r1), (0, .ref (E.2.1 60)), (1, .int x1)]) C.1 C.2.1 dX0_pairWith_55 rfl hl (by decide) rfl (fun ls hl => ?_)
      refine lv_iconst (v := (0 : Int32)) C.1 C.2.1 dX0_pairWith_56 (by decide) ?_
      refine lv_istore_n (lv' := [(3, .int (0 : Int32)), (2, .int r1), (0, .ref (E.2.1 60)), (1, .int x1)]) C.1 C.2.1 dX0_pairWith_57 rfl hl (by decide) rfl (fun ls hl => ?_)
      exact w_X0_pairWith_58 C 5000 x1 r1 (0 : Int32) S1 h _ _ _ hR (lv_sub hl [2, 3, 1, 0] rfl)
    · replace h := if_f h hc
      refine lv_aload_n C.1 C.2.1 dX0_pairWith_8 rfl (lv_at hl 0 rfl) ?_
      refine ho_getR (a' := 69) C cf0 fH_RX0_52 hR aH_60 rfl dX0_pairWith_9 ?_
      refine lv_iload_n C.1 C.2.1 dX0_pairWith_12 rfl (lv_at hl 2 rfl) ?_
      refine lv_iload_n C.1 C.2.1 dX0_pairWith_13 rfl (lv_at hl 1 rfl) ?_
      refine lv_iload_n C.1 C.2.1 dX0_pairWith_14 rfl (lv_at hl 2 rfl) ?_
      refine lv_ishr C.1 C.2.1 dX0_pairWith_15 ?_
      refine lv_iconst (v := (1 : Int32)) C.1 C.2.1 dX0_pairWith_16 (by decide) ?_
      refine lv_iand C.1 C.2.1 dX0_pairWith_17 ?_
      refine lv_iconst (v := (1 : Int32)) C.1 C.2.1 dX0_pairWith_18 (by decide) ?_
      refine lv_icmp_ne (tgt := 31) C.1 C.2.1 dX0_pairWith_19 (by decide) (fun hc => ?_) (fun hc => ?_)
      · replace h := if_f h hc
        refine lv_aload_n C.1 C.2.1 dX0_pairWith_31 rfl (lv_at hl 0 rfl) ?_
        refine ho_getR (a' := 67) C cf0 fH_RX0_46 hR aH_60 rfl dX0_pairWith_32 ?_
        refine lv_iload_n C.1 C.2.1 dX0_pairWith_35 rfl (lv_at hl 2 rfl) ?_
        obtain ⟨v2, e2, hi2, h⟩ := ldI_ok h
        refine hr_ild C hR aH_67 hi2 e2 dX0_pairWith_36 ?_
        exact w_X0_pairWith_37 C (f_X0_pairWith_2 k) ih x1 x2 x2 v2 S h _ _ _ hR (lv_sub hl [0, 1, 2] rfl)
      · replace h := if_t h hc
        refine lv_aload_n C.1 C.2.1 dX0_pairWith_22 rfl (lv_at hl 0 rfl) ?_
        refine ho_getR (a' := 68) C cf0 fH_RX0_49 hR aH_60 rfl dX0_pairWith_23 ?_
        refine lv_iload_n C.1 C.2.1 dX0_pairWith_26 rfl (lv_at hl 2 rfl) ?_
        obtain ⟨v3, e3, hi3, h⟩ := ldI_ok h
        refine hr_ild C hR aH_68 hi3 e3 dX0_pairWith_27 ?_
        refine lv_goto (tgt := 37) C.1 C.2.1 dX0_pairWith_28 (by decide) ?_
        exact w_X0_pairWith_37 C (f_X0_pairWith_2 k) ih x1 x2 x2 v3 S h _ _ _ hR (lv_sub hl [0, 1, 2] rfl)
def f_X0_pairWith (x1 : Int32) (S : Hp) : Option Hp :=
  f_X0_pairWith_2 5000 x1 (0 : Int32) S
set_option maxHeartbeats 4000000 in
set_option maxRecDepth 100000 in
theorem c_X0_pairWith (l : Launch) (E : Ev) (x1 : Int32) (S : Hp) (r : Hp) (h : f_X0_pairWith x1 S = some r) : ho_M l yH E yX0_pairWith cX0_pairWith 4 none 5 [.ref (E.2.1 60), .int x1] S (none, r) := by
  refine ho_in (by decide) (Nat.le_of_ble_eq_true rfl) ?_
  intro p e s m args below meth c C hR ls hl
  have C : ho_I p s m args meth c RX0 cX0_pairWith 4 none := C
  have hl : lv_has ls 4 [(0, .ref (E.2.1 60)), (1, .int x1)] := hl
  unfold f_X0_pairWith at h
  refine lv_iconst (v := (0 : Int32)) C.1 C.2.1 dX0_pairWith_0 (by decide) ?_
  refine lv_istore_n (lv' := [(2, .int (0 : Int32)), (0, .ref (E.2.1 60)), (1, .int x1)]) C.1 C.2.1 dX0_pairWith_1 rfl hl (by decide) rfl (fun ls hl => ?_)
  exact w_X0_pairWith_2 C 5000 x1 (0 : Int32) S h _ _ _ hR (lv_sub hl [1, 2, 0] rfl)
theorem dX0_findPair_0 : decode cX0_findPair 0 = .ok (.aload_n 0, 1) := by decide +kernel
theorem dX0_findPair_1 : decode cX0_findPair 1 = .ok (.getfield 59, 3) := by decide +kernel
theorem dX0_findPair_4 : decode cX0_findPair 4 = .ok (.ifCond .eq 4, 3) := by decide +kernel
theorem dX0_findPair_7 : decode cX0_findPair 7 = .ok (.return_, 1) := by decide +kernel
theorem dX0_findPair_8 : decode cX0_findPair 8 = .ok (.aload_n 0, 1) := by decide +kernel
theorem dX0_findPair_9 : decode cX0_findPair 9 = .ok (.iconst 1, 1) := by decide +kernel
theorem dX0_findPair_10 : decode cX0_findPair 10 = .ok (.putfield 59, 3) := by decide +kernel
theorem dX0_findPair_13 : decode cX0_findPair 13 = .ok (.aload_n 0, 1) := by decide +kernel
theorem dX0_findPair_14 : decode cX0_findPair 14 = .ok (.getfield 34, 3) := by decide +kernel
theorem dX0_findPair_17 : decode cX0_findPair 17 = .ok (.aload_n 1, 1) := by decide +kernel
theorem dX0_findPair_18 : decode cX0_findPair 18 = .ok (.invokevirtual 70, 3) := by decide +kernel
theorem dX0_findPair_21 : decode cX0_findPair 21 = .ok (.aload_n 0, 1) := by decide +kernel
theorem dX0_findPair_22 : decode cX0_findPair 22 = .ok (.getfield 63, 3) := by decide +kernel
theorem dX0_findPair_25 : decode cX0_findPair 25 = .ok (.aload_n 0, 1) := by decide +kernel
theorem dX0_findPair_26 : decode cX0_findPair 26 = .ok (.getfield 34, 3) := by decide +kernel
theorem dX0_findPair_29 : decode cX0_findPair 29 = .ok (.invokevirtual 84, 3) := by decide +kernel
theorem dX0_findPair_32 : decode cX0_findPair 32 = .ok (.aload_n 0, 1) := by decide +kernel
theorem dX0_findPair_33 : decode cX0_findPair 33 = .ok (.getfield 63, 3) := by decide +kernel
theorem dX0_findPair_36 : decode cX0_findPair 36 = .ok (.aload_n 0, 1) := by decide +kernel
theorem dX0_findPair_37 : decode cX0_findPair 37 = .ok (.getfield 34, 3) := by decide +kernel
theorem dX0_findPair_40 : decode cX0_findPair 40 = .ok (.invokevirtual 87, 3) := by decide +kernel
theorem dX0_findPair_43 : decode cX0_findPair 43 = .ok (.istore_n 2, 1) := by decide +kernel
theorem dX0_findPair_44 : decode cX0_findPair 44 = .ok (.aload_n 0, 1) := by decide +kernel
theorem dX0_findPair_45 : decode cX0_findPair 45 = .ok (.iload_n 2, 1) := by decide +kernel
theorem dX0_findPair_46 : decode cX0_findPair 46 = .ok (.invokevirtual 90, 3) := by decide +kernel
theorem dX0_findPair_49 : decode cX0_findPair 49 = .ok (.aload_n 0, 1) := by decide +kernel
theorem dX0_findPair_50 : decode cX0_findPair 50 = .ok (.getfield 24, 3) := by decide +kernel
theorem dX0_findPair_53 : decode cX0_findPair 53 = .ok (.iconst 2, 1) := by decide +kernel
theorem dX0_findPair_54 : decode cX0_findPair 54 = .ok (.ldc 93, 2) := by decide +kernel
theorem dX0_findPair_56 : decode cX0_findPair 56 = .ok (.iastore, 1) := by decide +kernel
theorem dX0_findPair_57 : decode cX0_findPair 57 = .ok (.iconst 0, 1) := by decide +kernel
theorem dX0_findPair_58 : decode cX0_findPair 58 = .ok (.istore_n 3, 1) := by decide +kernel
theorem dX0_findPair_59 : decode cX0_findPair 59 = .ok (.iload_n 3, 1) := by decide +kernel
theorem dX0_findPair_60 : decode cX0_findPair 60 = .ok (.iload_n 2, 1) := by decide +kernel
theorem dX0_findPair_61 : decode cX0_findPair 61 = .ok (.if_icmp .gt 61, 3) := by decide +kernel
theorem dX0_findPair_64 : decode cX0_findPair 64 = .ok (.iload_n 3, 1) := by decide +kernel
theorem dX0_findPair_65 : decode cX0_findPair 65 = .ok (.iload_n 2, 1) := by decide +kernel
theorem dX0_findPair_66 : decode cX0_findPair 66 = .ok (.iconst (-1), 1) := by decide +kernel
theorem dX0_findPair_67 : decode cX0_findPair 67 = .ok (.ixor, 1) := by decide +kernel
theorem dX0_findPair_68 : decode cX0_findPair 68 = .ok (.iand, 1) := by decide +kernel
theorem dX0_findPair_69 : decode cX0_findPair 69 = .ok (.ifCond .ne 47, 3) := by decide +kernel
theorem dX0_findPair_72 : decode cX0_findPair 72 = .ok (.aload_n 0, 1) := by decide +kernel
theorem dX0_findPair_73 : decode cX0_findPair 73 = .ok (.getfield 37, 3) := by decide +kernel
theorem dX0_findPair_76 : decode cX0_findPair 76 = .ok (.aload_n 0, 1) := by decide +kernel
theorem dX0_findPair_77 : decode cX0_findPair 77 = .ok (.getfield 34, 3) := by decide +kernel
theorem dX0_findPair_80 : decode cX0_findPair 80 = .ok (.invokevirtual 70, 3) := by decide +kernel
theorem dX0_findPair_83 : decode cX0_findPair 83 = .ok (.aload_n 0, 1) := by decide +kernel
theorem dX0_findPair_84 : decode cX0_findPair 84 = .ok (.getfield 63, 3) := by decide +kernel
theorem dX0_findPair_87 : decode cX0_findPair 87 = .ok (.aload_n 0, 1) := by decide +kernel
theorem dX0_findPair_88 : decode cX0_findPair 88 = .ok (.getfield 37, 3) := by decide +kernel
theorem dX0_findPair_91 : decode cX0_findPair 91 = .ok (.iload_n 3, 1) := by decide +kernel
theorem dX0_findPair_92 : decode cX0_findPair 92 = .ok (.aload_n 0, 1) := by decide +kernel
theorem dX0_findPair_93 : decode cX0_findPair 93 = .ok (.getfield 43, 3) := by decide +kernel
theorem dX0_findPair_96 : decode cX0_findPair 96 = .ok (.invokevirtual 94, 3) := by decide +kernel
theorem dX0_findPair_99 : decode cX0_findPair 99 = .ok (.pop, 1) := by decide +kernel
theorem dX0_findPair_100 : decode cX0_findPair 100 = .ok (.aload_n 0, 1) := by decide +kernel
theorem dX0_findPair_101 : decode cX0_findPair 101 = .ok (.getfield 63, 3) := by decide +kernel
theorem dX0_findPair_104 : decode cX0_findPair 104 = .ok (.aload_n 0, 1) := by decide +kernel
theorem dX0_findPair_105 : decode cX0_findPair 105 = .ok (.getfield 37, 3) := by decide +kernel
theorem dX0_findPair_108 : decode cX0_findPair 108 = .ok (.invokevirtual 84, 3) := by decide +kernel
theorem dX0_findPair_111 : decode cX0_findPair 111 = .ok (.aload_n 0, 1) := by decide +kernel
theorem dX0_findPair_112 : decode cX0_findPair 112 = .ok (.iload_n 3, 1) := by decide +kernel
theorem dX0_findPair_113 : decode cX0_findPair 113 = .ok (.invokevirtual 98, 3) := by decide +kernel
theorem dX0_findPair_116 : decode cX0_findPair 116 = .ok (.iinc 3 1, 3) := by decide +kernel
theorem dX0_findPair_119 : decode cX0_findPair 119 = .ok (.goto (-60), 3) := by decide +kernel
theorem dX0_findPair_122 : decode cX0_findPair 122 = .ok (.return_, 1) := by decide +kernel
def f_X0_findPair_116 (K59 : Int32 → Int32 → Hp → Option Hp) (a1 : Nat) (x2 : Int32) (x3 : Int32) (S : Hp) : Option Hp :=
  le1 (x3 + (1 : Int32)) (fun v1 => K59 x2 v1 S)
set_option maxHeartbeats 4000000 in
set_option maxRecDepth 100000 in
theorem w_X0_findPair_116 {p : Program} {l : Launch} {e : Env} {s : State} {m : MethodId} {args : Array Value} {below : List Frame} {meth : Method} {c : Code} {E : Ev} {S0 : Hp} {r : Hp} (C : ho_I p s m args meth c RX0 cX0_findPair 4 none) (K59 : Int32 → Int32 → Hp → Option Hp) (a1 : Nat) (ha1 : a1 ∈ yH.1 ∧ yH.2.1 a1 = (1, 9)) (hK59 : ∀ (y2 : Int32) (y3 : Int32) (S : Hp), K59 y2 y3 S = some r → ho_G p l e s m args below meth c yH E S0 6 4 (none, r) 59 [(0, .ref (E.2.1 60)), (2, .int y2), (3, .int y3)] [] S) :
    ∀ (x2 : Int32) (x3 : Int32) (S : Hp), f_X0_findPair_116 K59 a1 x2 x3 S = some r → ho_G p l e s m args below meth c yH E S0 6 4 (none, r) 116 [(0, .ref (E.2.1 60)), (2, .int x2), (3, .int x3)] [] S := by
  intro x2 x3 S h H locs ls hR hl
  unfold f_X0_findPair_116 at h
  obtain ⟨v1, e1, h⟩ := le1_ok h
  refine lv_iinc (v := v1) (lv' := [(3, .int v1), (0, .ref (E.2.1 60)), (2, .int x2)]) C.1 C.2.1 dX0_findPair_116 hl (k := 2) rfl (by rw [e1]; rfl) (by decide) rfl (fun ls hl => ?_)
  refine lv_goto (tgt := 59) C.1 C.2.1 dX0_findPair_119 (by decide) ?_
  exact hK59 x2 v1 S h _ _ _ hR (lv_sub hl [1, 2, 0] rfl)
def f_X0_findPair_59 (a1 : Nat) : Nat → Int32 → Int32 → Hp → Option Hp
  | 0, _, _, _ => none
  | k + 1, x2, x3, S => if x2 < x3 then some S else if (x3 &&& (x2 ^^^ (-1 : Int32))) = 0 then ob (f_X9_copy 1240 1230 S) (fun S1 => ob2 (f_X8_give 1240 x3 66 6 S1) (fun r2 S2 => ob (f_X8_ripen 1240 S2) (fun S3 => ob (f_X0_pairWith x3 S3) (fun S4 => f_X0_findPair_116 (f_X0_findPair_59 a1 k) a1 x2 x3 S4)))) else f_X0_findPair_116 (f_X0_findPair_59 a1 k) a1 x2 x3 S
set_option maxHeartbeats 4000000 in
set_option maxRecDepth 100000 in
theorem w_X0_findPair_59 {p : Program} {l : Launch} {e : Env} {s : State} {m : MethodId} {args : Array Value} {below : List Frame} {meth : Method} {c : Code} {E : Ev} {S0 : Hp} {r : Hp} (C : ho_I p s m args meth c RX0 cX0_findPair 4 none) (a1 : Nat) (ha1 : a1 ∈ yH.1 ∧ yH.2.1 a1 = (1, 9)) :
    ∀ (k : Nat) (x2 : Int32) (x3 : Int32) (S : Hp), f_X0_findPair_59 a1 k x2 x3 S = some r → ho_G p l e s m args below meth c yH E S0 6 4 (none, r) 59 [(0, .ref (E.2.1 60)), (2, .int x2), (3, .int x3)] [] S := by
  intro k
  induction k with
  | zero =>
    intro x2 x3 S h
    exact absurd (show (none : Option Hp) = some r from h) (by simp)
  | succ k ih =>
    intro x2 x3 S h H locs ls hR hl
    rw [f_X0_findPair_59] at h
    refine lv_iload_n C.1 C.2.1 dX0_findPair_59 rfl (lv_at hl 2 rfl) ?_
    refine lv_iload_n C.1 C.2.1 dX0_findPair_60 rfl (lv_at hl 1 rfl) ?_
    refine lv_icmp_gt (tgt := 122) C.1 C.2.1 dX0_findPair_61 (by decide) (fun hc => ?_) (fun hc => ?_)
    · replace h := if_t h hc
      exact ho_vret C hR h dX0_findPair_122
    · replace h := if_f h hc
      refine lv_iload_n C.1 C.2.1 dX0_findPair_64 rfl (lv_at hl 2 rfl) ?_
      refine lv_iload_n C.1 C.2.1 dX0_findPair_65 rfl (lv_at hl 1 rfl) ?_
      refine lv_iconst (v := (-1 : Int32)) C.1 C.2.1 dX0_findPair_66 (by decide) ?_
      refine lv_ixor C.1 C.2.1 dX0_findPair_67 ?_
      refine lv_iand C.1 C.2.1 dX0_findPair_68 ?_
      refine lv_if_ne (tgt := 116) C.1 C.2.1 dX0_findPair_69 (by decide) (fun hc => ?_) (fun hc => ?_)
      · replace h := if_f h hc
        exact w_X0_findPair_116 C (f_X0_findPair_59 a1 k) a1 ha1 ih x2 x3 S h _ _ _ hR (lv_sub hl [0, 1, 2] rfl)
      · replace h := if_t h hc
        refine lv_aload_n C.1 C.2.1 dX0_findPair_72 rfl (lv_at hl 0 rfl) ?_
        refine ho_getR (a' := 1240) C cf0 fH_RX0_37 hR aH_60 rfl dX0_findPair_73 ?_
        refine lv_aload_n C.1 C.2.1 dX0_findPair_76 rfl (lv_at hl 0 rfl) ?_
        refine ho_getR (a' := 1230) C cf0 fH_RX0_34 hR aH_60 rfl dX0_findPair_77 ?_
        obtain ⟨S1, h1, h⟩ := ob_ok h
        refine hr_Vv (S' := S1) (As := [.ref (E.2.1 1230)]) (rest := []) C cf9 (c_X9_copy l E 1240 1230 aH_1240 aH_1230 _ _ h1) yv_X9_copy lk_RX0_70 rfl aH_1240 rfl rfl hl.1 (Nat.le_of_ble_eq_true rfl) (by decide) (by decide) hR (ho_A hR) dX0_findPair_80 (fun H locs hR => ?_)
        refine lv_aload_n C.1 C.2.1 dX0_findPair_83 rfl (lv_at hl 0 rfl) ?_
        refine ho_getR (a' := 50) C cf0 fH_RX0_63 hR aH_60 rfl dX0_findPair_84 ?_
        refine lv_aload_n C.1 C.2.1 dX0_findPair_87 rfl (lv_at hl 0 rfl) ?_
        refine ho_getR (a' := 1240) C cf0 fH_RX0_37 hR aH_60 rfl dX0_findPair_88 ?_
        refine lv_iload_n C.1 C.2.1 dX0_findPair_91 rfl (lv_at hl 2 rfl) ?_
        refine lv_aload_n C.1 C.2.1 dX0_findPair_92 rfl (lv_at hl 0 rfl) ?_
        refine ho_getR (a' := 66) C cf0 fH_RX0_43 hR aH_60 rfl dX0_findPair_93 ?_
        obtain ⟨r2, S2, h2, h⟩ := ob2_ok h
        refine hr_Vi (v := r2) (S' := S2) (As := [.ref (E.2.1 1240), .int x3, .ref (E.2.1 66)]) (rest := []) C cf8 (c_X8_give l E 1240 x3 66 6 aH_1240 aH_66 _ _ h2) yv_X8_give lk_RX0_94 rfl aH_50 rfl rfl hl.1 (Nat.le_of_ble_eq_true rfl) (by decide) (by decide) hR (ho_A hR) dX0_findPair_96 (fun H locs hR => ?_)
        refine lv_pop C.1 C.2.1 dX0_findPair_99 rfl ?_
        refine lv_aload_n C.1 C.2.1 dX0_findPair_100 rfl (lv_at hl 0 rfl) ?_
        refine ho_getR (a' := 50) C cf0 fH_RX0_63 hR aH_60 rfl dX0_findPair_101 ?_
        refine lv_aload_n C.1 C.2.1 dX0_findPair_104 rfl (lv_at hl 0 rfl) ?_
        refine ho_getR (a' := 1240) C cf0 fH_RX0_37 hR aH_60 rfl dX0_findPair_105 ?_
        obtain ⟨S3, h3, h⟩ := ob_ok h
        refine hr_Vv (S' := S3) (As := [.ref (E.2.1 1240)]) (rest := []) C cf8 (c_X8_ripen l E 1240 aH_1240 _ _ h3) yv_X8_ripen lk_RX0_84 rfl aH_50 rfl rfl hl.1 (Nat.le_of_ble_eq_true rfl) (by decide) (by decide) hR (ho_A hR) dX0_findPair_108 (fun H locs hR => ?_)
        refine lv_aload_n C.1 C.2.1 dX0_findPair_111 rfl (lv_at hl 0 rfl) ?_
        refine lv_iload_n C.1 C.2.1 dX0_findPair_112 rfl (lv_at hl 2 rfl) ?_
        obtain ⟨S4, h4, h⟩ := ob_ok h
        refine hr_Vv (S' := S4) (As := [.int x3]) (rest := []) C cf0 (c_X0_pairWith l E x3 _ _ h4) yv_X0_pairWith lk_RX0_98 rfl aH_60 rfl rfl hl.1 (Nat.le_of_ble_eq_true rfl) (by decide) (by decide) hR (ho_A hR) dX0_findPair_113 (fun H locs hR => ?_)
        exact w_X0_findPair_116 C (f_X0_findPair_59 a1 k) a1 ha1 ih x2 x3 S4 h _ _ _ hR (lv_sub hl [0, 1, 2] rfl)
def f_X0_findPair (a1 : Nat) (S : Hp) : Option Hp :=
  if (S.1 60 15) = 0 then le1 (ho_sI S 60 15 (1 : Int32)) (fun S1 => ob (f_X9_copy 1230 a1 S1) (fun S2 => ob (f_X8_ripen 1230 S2) (fun S3 => ob2 (f_X8_showable 1230 S3) (fun r4 S4 => ob (f_X0_lookAhead r4 S4) (fun S5 => stI S5 65 4 (2 : Int32) (100000 : Int32) (fun S6 => f_X0_findPair_59 a1 5000 r4 (0 : Int32) S6)))))) else some S
set_option maxHeartbeats 4000000 in
set_option maxRecDepth 100000 in
theorem c_X0_findPair (l : Launch) (E : Ev) (a1 : Nat) (ha1 : a1 ∈ yH.1 ∧ yH.2.1 a1 = (1, 9)) (S : Hp) (r : Hp) (h : f_X0_findPair a1 S = some r) : ho_M l yH E yX0_findPair cX0_findPair 4 none 6 [.ref (E.2.1 60), .ref (E.2.1 a1)] S (none, r) := by
  refine ho_in (by decide) (Nat.le_of_ble_eq_true rfl) ?_
  intro p e s m args below meth c C hR ls hl
  have C : ho_I p s m args meth c RX0 cX0_findPair 4 none := C
  have hl : lv_has ls 4 [(0, .ref (E.2.1 60)), (1, .ref (E.2.1 a1))] := hl
  unfold f_X0_findPair at h
  refine lv_aload_n C.1 C.2.1 dX0_findPair_0 rfl (lv_at hl 0 rfl) ?_
  refine ho_getI C cf0 fH_RX0_59 hR aH_60 dX0_findPair_1 ?_
  refine lv_if_eq (tgt := 8) C.1 C.2.1 dX0_findPair_4 (by decide) (fun hc => ?_) (fun hc => ?_)
  · replace h := if_t h hc
    refine lv_aload_n C.1 C.2.1 dX0_findPair_8 rfl (lv_at hl 0 rfl) ?_
    refine lv_iconst (v := (1 : Int32)) C.1 C.2.1 dX0_findPair_9 (by decide) ?_
    obtain ⟨S1, e1, h⟩ := le1_ok h
    refine hr_putZ C cf0 fH_RX0_59 hR aH_60 (Or.inr rfl) e1 dX0_findPair_10 (fun H locs hR => ?_)
    refine lv_aload_n C.1 C.2.1 dX0_findPair_13 rfl (lv_at hl 0 rfl) ?_
    refine ho_getR (a' := 1230) C cf0 fH_RX0_34 hR aH_60 rfl dX0_findPair_14 ?_
    refine lv_aload_n C.1 C.2.1 dX0_findPair_17 rfl (lv_at hl 1 rfl) ?_
    obtain ⟨S2, h2, h⟩ := ob_ok h
    refine hr_Vv (S' := S2) (As := [.ref (E.2.1 a1)]) (rest := []) C cf9 (c_X9_copy l E 1230 a1 aH_1230 ha1 _ _ h2) yv_X9_copy lk_RX0_70 rfl aH_1230 rfl rfl hl.1 (Nat.le_of_ble_eq_true rfl) (by decide) (by decide) hR (ho_A hR) dX0_findPair_18 (fun H locs hR => ?_)
    refine lv_aload_n C.1 C.2.1 dX0_findPair_21 rfl (lv_at hl 0 rfl) ?_
    refine ho_getR (a' := 50) C cf0 fH_RX0_63 hR aH_60 rfl dX0_findPair_22 ?_
    refine lv_aload_n C.1 C.2.1 dX0_findPair_25 rfl (lv_at hl 0 rfl) ?_
    refine ho_getR (a' := 1230) C cf0 fH_RX0_34 hR aH_60 rfl dX0_findPair_26 ?_
    obtain ⟨S3, h3, h⟩ := ob_ok h
    refine hr_Vv (S' := S3) (As := [.ref (E.2.1 1230)]) (rest := []) C cf8 (c_X8_ripen l E 1230 aH_1230 _ _ h3) yv_X8_ripen lk_RX0_84 rfl aH_50 rfl rfl hl.1 (Nat.le_of_ble_eq_true rfl) (by decide) (by decide) hR (ho_A hR) dX0_findPair_29 (fun H locs hR => ?_)
    refine lv_aload_n C.1 C.2.1 dX0_findPair_32 rfl (lv_at hl 0 rfl) ?_
    refine ho_getR (a' := 50) C cf0 fH_RX0_63 hR aH_60 rfl dX0_findPair_33 ?_
    refine lv_aload_n C.1 C.2.1 dX0_findPair_36 rfl (lv_at hl 0 rfl) ?_
    refine ho_getR (a' := 1230) C cf0 fH_RX0_34 hR aH_60 rfl dX0_findPair_37 ?_
    obtain ⟨r4, S4, h4, h⟩ := ob2_ok h
    refine hr_Vi (v := r4) (S' := S4) (As := [.ref (E.2.1 1230)]) (rest := []) C cf8 (c_X8_showable l E 1230 aH_1230 _ _ h4) yv_X8_showable lk_RX0_87 rfl aH_50 rfl rfl hl.1 (Nat.le_of_ble_eq_true rfl) (by decide) (by decide) hR (ho_A hR) dX0_findPair_40 (fun H locs hR => ?_)
    refine lv_istore_n (lv' := [(2, .int r4), (0, .ref (E.2.1 60)), (1, .ref (E.2.1 a1))]) C.1 C.2.1 dX0_findPair_43 rfl hl (by decide) rfl (fun ls hl => ?_)
    refine lv_aload_n C.1 C.2.1 dX0_findPair_44 rfl (lv_at hl 1 rfl) ?_
    refine lv_iload_n C.1 C.2.1 dX0_findPair_45 rfl (lv_at hl 0 rfl) ?_
    obtain ⟨S5, h5, h⟩ := ob_ok h
    refine hr_Vv (S' := S5) (As := [.int r4]) (rest := []) C cf0 (c_X0_lookAhead l E r4 _ _ h5) yv_X0_lookAhead lk_RX0_90 rfl aH_60 rfl rfl hl.1 (Nat.le_of_ble_eq_true rfl) (by decide) (by decide) hR (ho_A hR) dX0_findPair_46 (fun H locs hR => ?_)
    refine lv_aload_n C.1 C.2.1 dX0_findPair_49 rfl (lv_at hl 1 rfl) ?_
    refine ho_getR (a' := 65) C cf0 fH_RX0_24 hR aH_60 rfl dX0_findPair_50 ?_
    refine lv_iconst (v := (2 : Int32)) C.1 C.2.1 dX0_findPair_53 (by decide) ?_
    refine lv_ldc (v := (100000 : Int32)) C.1 C.2.1 C.2.2.2.2.1 (C.2.2.2.2.2.1 _ kc_RX0_93) dX0_findPair_54 ?_
    obtain ⟨S6, e6, hi6, h⟩ := stI_ok h
    refine hr_ist C hR aH_65 hi6 e6 dX0_findPair_56 (fun H locs hR => ?_)
    refine lv_iconst (v := (0 : Int32)) C.1 C.2.1 dX0_findPair_57 (by decide) ?_
    refine lv_istore_n (lv' := [(3, .int (0 : Int32)), (2, .int r4), (0, .ref (E.2.1 60)), (1, .ref (E.2.1 a1))]) C.1 C.2.1 dX0_findPair_58 rfl hl (by decide) rfl (fun ls hl => ?_)
    exact w_X0_findPair_59 C a1 ha1 5000 r4 (0 : Int32) S6 h _ _ _ hR (lv_sub hl [2, 1, 0] rfl)
  · replace h := if_f h hc
    exact ho_vret C hR h dX0_findPair_7
theorem dX10_byteAt_0 : decode cX10_byteAt 0 = .ok (.iload_n 1, 1) := by decide +kernel
theorem dX10_byteAt_1 : decode cX10_byteAt 1 = .ok (.ifCond .lt 11, 3) := by decide +kernel
theorem dX10_byteAt_4 : decode cX10_byteAt 4 = .ok (.iload_n 1, 1) := by decide +kernel
theorem dX10_byteAt_5 : decode cX10_byteAt 5 = .ok (.aload_n 0, 1) := by decide +kernel
theorem dX10_byteAt_6 : decode cX10_byteAt 6 = .ok (.getfield 15, 3) := by decide +kernel
theorem dX10_byteAt_9 : decode cX10_byteAt 9 = .ok (.if_icmp .lt 7, 3) := by decide +kernel
theorem dX10_byteAt_12 : decode cX10_byteAt 12 = .ok (.iconst (-1), 1) := by decide +kernel
theorem dX10_byteAt_13 : decode cX10_byteAt 13 = .ok (.goto 13, 3) := by decide +kernel
theorem dX10_byteAt_16 : decode cX10_byteAt 16 = .ok (.aload_n 0, 1) := by decide +kernel
theorem dX10_byteAt_17 : decode cX10_byteAt 17 = .ok (.getfield 9, 3) := by decide +kernel
theorem dX10_byteAt_20 : decode cX10_byteAt 20 = .ok (.iload_n 1, 1) := by decide +kernel
theorem dX10_byteAt_21 : decode cX10_byteAt 21 = .ok (.baload, 1) := by decide +kernel
theorem dX10_byteAt_22 : decode cX10_byteAt 22 = .ok (.sipush 255, 3) := by decide +kernel
theorem dX10_byteAt_25 : decode cX10_byteAt 25 = .ok (.iand, 1) := by decide +kernel
theorem dX10_byteAt_26 : decode cX10_byteAt 26 = .ok (.ireturn, 1) := by decide +kernel
def f_X10_byteAt_12 (S : Hp) : Option (Int32 × Hp) :=
  some ((-1 : Int32), S)
set_option maxHeartbeats 4000000 in
set_option maxRecDepth 100000 in
theorem w_X10_byteAt_12 {p : Program} {l : Launch} {e : Env} {s : State} {m : MethodId} {args : Array Value} {below : List Frame} {meth : Method} {c : Code} {E : Ev} {S0 : Hp} {r : (Int32 × Hp)} (C : ho_I p s m args meth c RX10 cX10_byteAt 2 (some .int)) :
    ∀ (S : Hp), f_X10_byteAt_12 S = some r → ho_G p l e s m args below meth c yH E S0 0 2 (some (.int r.1), r.2) 12 [] [] S := by
  intro S h H locs ls hR hl
  unfold f_X10_byteAt_12 at h
  refine lv_iconst (v := (-1 : Int32)) C.1 C.2.1 dX10_byteAt_12 (by decide) ?_
  refine lv_goto (tgt := 26) C.1 C.2.1 dX10_byteAt_13 (by decide) ?_
  exact ho_iret C hR h dX10_byteAt_26
def f_X10_byteAt (x1 : Int32) (S : Hp) : Option (Int32 × Hp) :=
  if x1 < 0 then f_X10_byteAt_12 S else if x1 < (S.1 10 1) then ldI S 11 1600 x1 (fun v1 => some ((v1 &&& (255 : Int32)), S)) else f_X10_byteAt_12 S
set_option maxHeartbeats 4000000 in
set_option maxRecDepth 100000 in
theorem c_X10_byteAt (l : Launch) (E : Ev) (x1 : Int32) (S : Hp) (r : (Int32 × Hp)) (h : f_X10_byteAt x1 S = some r) : ho_M l yH E yX10_byteAt cX10_byteAt 2 (some .int) 0 [.ref (E.2.1 10), .int x1] S (some (.int r.1), r.2) := by
  refine ho_in (by decide) (Nat.le_of_ble_eq_true rfl) ?_
  intro p e s m args below meth c C hR ls hl
  have C : ho_I p s m args meth c RX10 cX10_byteAt 2 (some .int) := C
  have hl : lv_has ls 2 [(0, .ref (E.2.1 10)), (1, .int x1)] := hl
  unfold f_X10_byteAt at h
  refine lv_iload_n C.1 C.2.1 dX10_byteAt_0 rfl (lv_at hl 1 rfl) ?_
  refine lv_if_lt (tgt := 12) C.1 C.2.1 dX10_byteAt_1 (by decide) (fun hc => ?_) (fun hc => ?_)
  · replace h := if_t h hc
    exact w_X10_byteAt_12 C S h _ _ _ hR (lv_sub hl [] rfl)
  · replace h := if_f h hc
    refine lv_iload_n C.1 C.2.1 dX10_byteAt_4 rfl (lv_at hl 1 rfl) ?_
    refine lv_aload_n C.1 C.2.1 dX10_byteAt_5 rfl (lv_at hl 0 rfl) ?_
    refine ho_getI C cf10 fH_RX10_15 hR aH_10 dX10_byteAt_6 ?_
    refine lv_icmp_lt (tgt := 16) C.1 C.2.1 dX10_byteAt_9 (by decide) (fun hc => ?_) (fun hc => ?_)
    · replace h := if_t h hc
      refine lv_aload_n C.1 C.2.1 dX10_byteAt_16 rfl (lv_at hl 0 rfl) ?_
      refine ho_getR (a' := 11) C cf10 fH_RX10_9 hR aH_10 rfl dX10_byteAt_17 ?_
      refine lv_iload_n C.1 C.2.1 dX10_byteAt_20 rfl (lv_at hl 1 rfl) ?_
      obtain ⟨v1, e1, hi1, h⟩ := ldI_ok h
      refine hr_bld C hR aH_11 hi1 e1 dX10_byteAt_21 ?_
      refine lv_sipush (v := (255 : Int32)) C.1 C.2.1 dX10_byteAt_22 (by decide) ?_
      refine lv_iand C.1 C.2.1 dX10_byteAt_25 ?_
      exact ho_iret C hR h dX10_byteAt_26
    · replace h := if_f h hc
      exact w_X10_byteAt_12 C S h _ _ _ hR (lv_sub hl [] rfl)
theorem dX2_holds_0 : decode cX2_holds 0 = .ok (.iload_n 2, 1) := by decide +kernel
theorem dX2_holds_1 : decode cX2_holds 1 = .ok (.ifCond .lt 17, 3) := by decide +kernel
theorem dX2_holds_4 : decode cX2_holds 4 = .ok (.iload_n 2, 1) := by decide +kernel
theorem dX2_holds_5 : decode cX2_holds 5 = .ok (.aload_n 0, 1) := by decide +kernel
theorem dX2_holds_6 : decode cX2_holds 6 = .ok (.getfield 27, 3) := by decide +kernel
theorem dX2_holds_9 : decode cX2_holds 9 = .ok (.iload_n 1, 1) := by decide +kernel
theorem dX2_holds_10 : decode cX2_holds 10 = .ok (.iaload, 1) := by decide +kernel
theorem dX2_holds_11 : decode cX2_holds 11 = .ok (.if_icmp .ge 7, 3) := by decide +kernel
theorem dX2_holds_14 : decode cX2_holds 14 = .ok (.iconst 1, 1) := by decide +kernel
theorem dX2_holds_15 : decode cX2_holds 15 = .ok (.goto 4, 3) := by decide +kernel
theorem dX2_holds_18 : decode cX2_holds 18 = .ok (.iconst 0, 1) := by decide +kernel
theorem dX2_holds_19 : decode cX2_holds 19 = .ok (.ireturn, 1) := by decide +kernel
def f_X2_holds (a0 : Nat) (x1 : Int32) (x2 : Int32) (S : Hp) : Option (Int32 × Hp) :=
  if x2 < 0 then some ((0 : Int32), S) else ldI S (a0 + 1) 3 x1 (fun v1 => if v1 ≤ x2 then some ((0 : Int32), S) else some ((1 : Int32), S))
set_option maxHeartbeats 4000000 in
set_option maxRecDepth 100000 in
theorem c_X2_holds (l : Launch) (E : Ev) (a0 : Nat) (x1 : Int32) (x2 : Int32) (ha0 : a0 ∈ yH.1 ∧ yH.2.1 a0 = (1, 2)) (S : Hp) (r : (Int32 × Hp)) (h : f_X2_holds a0 x1 x2 S = some r) : ho_M l yH E yX2_holds cX2_holds 3 (some .boolean) 0 [.ref (E.2.1 a0), .int x1, .int x2] S (some (.int r.1), r.2) := by
  refine ho_in (by decide) (Nat.le_of_ble_eq_true rfl) ?_
  intro p e s m args below meth c C hR ls hl
  have C : ho_I p s m args meth c RX2 cX2_holds 3 (some .boolean) := C
  have hl : lv_has ls 3 [(0, .ref (E.2.1 a0)), (1, .int x1), (2, .int x2)] := hl
  unfold f_X2_holds at h
  refine lv_iload_n C.1 C.2.1 dX2_holds_0 rfl (lv_at hl 2 rfl) ?_
  refine lv_if_lt (tgt := 18) C.1 C.2.1 dX2_holds_1 (by decide) (fun hc => ?_) (fun hc => ?_)
  · replace h := if_t h hc
    refine lv_iconst (v := (0 : Int32)) C.1 C.2.1 dX2_holds_18 (by decide) ?_
    exact ho_zret C hR (Or.inl rfl) h dX2_holds_19
  · replace h := if_f h hc
    refine lv_iload_n C.1 C.2.1 dX2_holds_4 rfl (lv_at hl 2 rfl) ?_
    refine lv_aload_n C.1 C.2.1 dX2_holds_5 rfl (lv_at hl 0 rfl) ?_
    refine ho_getR (a' := (a0 + 1)) C cf2 fH_RX2_27 hR ha0 (pH_2_5 ha0.2) dX2_holds_6 ?_
    refine lv_iload_n C.1 C.2.1 dX2_holds_9 rfl (lv_at hl 1 rfl) ?_
    obtain ⟨v1, e1, hi1, h⟩ := ldI_ok h
    refine hr_ild C hR (rH_2_1 ha0) hi1 e1 dX2_holds_10 ?_
    refine lv_icmp_ge (tgt := 18) C.1 C.2.1 dX2_holds_11 (by decide) (fun hc => ?_) (fun hc => ?_)
    · replace h := if_t h hc
      refine lv_iconst (v := (0 : Int32)) C.1 C.2.1 dX2_holds_18 (by decide) ?_
      exact ho_zret C hR (Or.inl rfl) h dX2_holds_19
    · replace h := if_f h hc
      refine lv_iconst (v := (1 : Int32)) C.1 C.2.1 dX2_holds_14 (by decide) ?_
      refine lv_goto (tgt := 19) C.1 C.2.1 dX2_holds_15 (by decide) ?_
      exact ho_zret C hR (Or.inr rfl) h dX2_holds_19
theorem dX1_readFrom_0 : decode cX1_readFrom 0 = .ok (.aload_n 1, 1) := by decide +kernel
theorem dX1_readFrom_1 : decode cX1_readFrom 1 = .ok (.getfield 43, 3) := by decide +kernel
theorem dX1_readFrom_4 : decode cX1_readFrom 4 = .ok (.iconst 3, 1) := by decide +kernel
theorem dX1_readFrom_5 : decode cX1_readFrom 5 = .ok (.idiv, 1) := by decide +kernel
theorem dX1_readFrom_6 : decode cX1_readFrom 6 = .ok (.istore_n 2, 1) := by decide +kernel
theorem dX1_readFrom_7 : decode cX1_readFrom 7 = .ok (.iload_n 2, 1) := by decide +kernel
theorem dX1_readFrom_8 : decode cX1_readFrom 8 = .ok (.iconst 1, 1) := by decide +kernel
theorem dX1_readFrom_9 : decode cX1_readFrom 9 = .ok (.if_icmp .lt 19, 3) := by decide +kernel
theorem dX1_readFrom_12 : decode cX1_readFrom 12 = .ok (.iload_n 2, 1) := by decide +kernel
theorem dX1_readFrom_13 : decode cX1_readFrom 13 = .ok (.bipush 16, 2) := by decide +kernel
theorem dX1_readFrom_15 : decode cX1_readFrom 15 = .ok (.if_icmp .gt 13, 3) := by decide +kernel
theorem dX1_readFrom_18 : decode cX1_readFrom 18 = .ok (.iload_n 2, 1) := by decide +kernel
theorem dX1_readFrom_19 : decode cX1_readFrom 19 = .ok (.iconst 3, 1) := by decide +kernel
theorem dX1_readFrom_20 : decode cX1_readFrom 20 = .ok (.imul, 1) := by decide +kernel
theorem dX1_readFrom_21 : decode cX1_readFrom 21 = .ok (.aload_n 1, 1) := by decide +kernel
theorem dX1_readFrom_22 : decode cX1_readFrom 22 = .ok (.getfield 43, 3) := by decide +kernel
theorem dX1_readFrom_25 : decode cX1_readFrom 25 = .ok (.if_icmp .eq 5, 3) := by decide +kernel
theorem dX1_readFrom_28 : decode cX1_readFrom 28 = .ok (.iconst 0, 1) := by decide +kernel
theorem dX1_readFrom_29 : decode cX1_readFrom 29 = .ok (.ireturn, 1) := by decide +kernel
theorem dX1_readFrom_30 : decode cX1_readFrom 30 = .ok (.iconst 0, 1) := by decide +kernel
theorem dX1_readFrom_31 : decode cX1_readFrom 31 = .ok (.istore_n 3, 1) := by decide +kernel
theorem dX1_readFrom_32 : decode cX1_readFrom 32 = .ok (.iload_n 3, 1) := by decide +kernel
theorem dX1_readFrom_33 : decode cX1_readFrom 33 = .ok (.iload_n 2, 1) := by decide +kernel
theorem dX1_readFrom_34 : decode cX1_readFrom 34 = .ok (.if_icmp .ge 32, 3) := by decide +kernel
theorem dX1_readFrom_37 : decode cX1_readFrom 37 = .ok (.aload_n 0, 1) := by decide +kernel
theorem dX1_readFrom_38 : decode cX1_readFrom 38 = .ok (.getfield 39, 3) := by decide +kernel
theorem dX1_readFrom_41 : decode cX1_readFrom 41 = .ok (.getfield 48, 3) := by decide +kernel
theorem dX1_readFrom_44 : decode cX1_readFrom 44 = .ok (.iconst 0, 1) := by decide +kernel
theorem dX1_readFrom_45 : decode cX1_readFrom 45 = .ok (.aload_n 1, 1) := by decide +kernel
theorem dX1_readFrom_46 : decode cX1_readFrom 46 = .ok (.iload_n 3, 1) := by decide +kernel
theorem dX1_readFrom_47 : decode cX1_readFrom 47 = .ok (.iconst 3, 1) := by decide +kernel
theorem dX1_readFrom_48 : decode cX1_readFrom 48 = .ok (.imul, 1) := by decide +kernel
theorem dX1_readFrom_49 : decode cX1_readFrom 49 = .ok (.invokevirtual 54, 3) := by decide +kernel
theorem dX1_readFrom_52 : decode cX1_readFrom 52 = .ok (.invokevirtual 58, 3) := by decide +kernel
theorem dX1_readFrom_55 : decode cX1_readFrom 55 = .ok (.ifCond .ne 5, 3) := by decide +kernel
theorem dX1_readFrom_58 : decode cX1_readFrom 58 = .ok (.iconst 0, 1) := by decide +kernel
theorem dX1_readFrom_59 : decode cX1_readFrom 59 = .ok (.ireturn, 1) := by decide +kernel
theorem dX1_readFrom_60 : decode cX1_readFrom 60 = .ok (.iinc 3 1, 3) := by decide +kernel
theorem dX1_readFrom_63 : decode cX1_readFrom 63 = .ok (.goto (-31), 3) := by decide +kernel
theorem dX1_readFrom_66 : decode cX1_readFrom 66 = .ok (.iconst 0, 1) := by decide +kernel
theorem dX1_readFrom_67 : decode cX1_readFrom 67 = .ok (.istore_n 3, 1) := by decide +kernel
theorem dX1_readFrom_68 : decode cX1_readFrom 68 = .ok (.iload_n 3, 1) := by decide +kernel
theorem dX1_readFrom_69 : decode cX1_readFrom 69 = .ok (.iload_n 2, 1) := by decide +kernel
theorem dX1_readFrom_70 : decode cX1_readFrom 70 = .ok (.if_icmp .ge 50, 3) := by decide +kernel
theorem dX1_readFrom_73 : decode cX1_readFrom 73 = .ok (.aload_n 0, 1) := by decide +kernel
theorem dX1_readFrom_74 : decode cX1_readFrom 74 = .ok (.getfield 24, 3) := by decide +kernel
theorem dX1_readFrom_77 : decode cX1_readFrom 77 = .ok (.iload_n 3, 1) := by decide +kernel
theorem dX1_readFrom_78 : decode cX1_readFrom 78 = .ok (.aload_n 1, 1) := by decide +kernel
theorem dX1_readFrom_79 : decode cX1_readFrom 79 = .ok (.iload_n 3, 1) := by decide +kernel
theorem dX1_readFrom_80 : decode cX1_readFrom 80 = .ok (.iconst 3, 1) := by decide +kernel
theorem dX1_readFrom_81 : decode cX1_readFrom 81 = .ok (.imul, 1) := by decide +kernel
theorem dX1_readFrom_82 : decode cX1_readFrom 82 = .ok (.invokevirtual 54, 3) := by decide +kernel
theorem dX1_readFrom_85 : decode cX1_readFrom 85 = .ok (.iastore, 1) := by decide +kernel
theorem dX1_readFrom_86 : decode cX1_readFrom 86 = .ok (.aload_n 0, 1) := by decide +kernel
theorem dX1_readFrom_87 : decode cX1_readFrom 87 = .ok (.getfield 28, 3) := by decide +kernel
theorem dX1_readFrom_90 : decode cX1_readFrom 90 = .ok (.iload_n 3, 1) := by decide +kernel
theorem dX1_readFrom_91 : decode cX1_readFrom 91 = .ok (.aload_n 1, 1) := by decide +kernel
theorem dX1_readFrom_92 : decode cX1_readFrom 92 = .ok (.iload_n 3, 1) := by decide +kernel
theorem dX1_readFrom_93 : decode cX1_readFrom 93 = .ok (.iconst 3, 1) := by decide +kernel
theorem dX1_readFrom_94 : decode cX1_readFrom 94 = .ok (.imul, 1) := by decide +kernel
theorem dX1_readFrom_95 : decode cX1_readFrom 95 = .ok (.iconst 1, 1) := by decide +kernel
theorem dX1_readFrom_96 : decode cX1_readFrom 96 = .ok (.iadd, 1) := by decide +kernel
theorem dX1_readFrom_97 : decode cX1_readFrom 97 = .ok (.invokevirtual 54, 3) := by decide +kernel
theorem dX1_readFrom_100 : decode cX1_readFrom 100 = .ok (.bipush 8, 2) := by decide +kernel
theorem dX1_readFrom_102 : decode cX1_readFrom 102 = .ok (.ishl, 1) := by decide +kernel
theorem dX1_readFrom_103 : decode cX1_readFrom 103 = .ok (.aload_n 1, 1) := by decide +kernel
theorem dX1_readFrom_104 : decode cX1_readFrom 104 = .ok (.iload_n 3, 1) := by decide +kernel
theorem dX1_readFrom_105 : decode cX1_readFrom 105 = .ok (.iconst 3, 1) := by decide +kernel
theorem dX1_readFrom_106 : decode cX1_readFrom 106 = .ok (.imul, 1) := by decide +kernel
theorem dX1_readFrom_107 : decode cX1_readFrom 107 = .ok (.iconst 2, 1) := by decide +kernel
theorem dX1_readFrom_108 : decode cX1_readFrom 108 = .ok (.iadd, 1) := by decide +kernel
theorem dX1_readFrom_109 : decode cX1_readFrom 109 = .ok (.invokevirtual 54, 3) := by decide +kernel
theorem dX1_readFrom_112 : decode cX1_readFrom 112 = .ok (.ior, 1) := by decide +kernel
theorem dX1_readFrom_113 : decode cX1_readFrom 113 = .ok (.iastore, 1) := by decide +kernel
theorem dX1_readFrom_114 : decode cX1_readFrom 114 = .ok (.iinc 3 1, 3) := by decide +kernel
theorem dX1_readFrom_117 : decode cX1_readFrom 117 = .ok (.goto (-49), 3) := by decide +kernel
theorem dX1_readFrom_120 : decode cX1_readFrom 120 = .ok (.aload_n 0, 1) := by decide +kernel
theorem dX1_readFrom_121 : decode cX1_readFrom 121 = .ok (.iload_n 2, 1) := by decide +kernel
theorem dX1_readFrom_122 : decode cX1_readFrom 122 = .ok (.putfield 9, 3) := by decide +kernel
theorem dX1_readFrom_125 : decode cX1_readFrom 125 = .ok (.iconst 1, 1) := by decide +kernel
theorem dX1_readFrom_126 : decode cX1_readFrom 126 = .ok (.ireturn, 1) := by decide +kernel
def f_X1_readFrom_68 : Nat → Int32 → Int32 → Hp → Option (Int32 × Hp)
  | 0, _, _, _ => none
  | k + 1, x2, x3, S => if x2 ≤ x3 then le1 (ho_sI S 70 0 x2) (fun S1 => some ((1 : Int32), S1)) else ob2 (f_X10_byteAt (x3 * (3 : Int32)) S) (fun r2 S2 => stI S2 71 16 x3 r2 (fun S3 => ob2 (f_X10_byteAt ((x3 * (3 : Int32)) + (1 : Int32)) S3) (fun r4 S4 => ob2 (f_X10_byteAt ((x3 * (3 : Int32)) + (2 : Int32)) S4) (fun r5 S5 => stI S5 72 16 x3 ((r4 <<< ((8 : Int32) &&& 31)) ||| r5) (fun S6 => le1 (x3 + (1 : Int32)) (fun v7 => f_X1_readFrom_68 k x2 v7 S6))))))
set_option maxHeartbeats 4000000 in
set_option maxRecDepth 100000 in
theorem w_X1_readFrom_68 {p : Program} {l : Launch} {e : Env} {s : State} {m : MethodId} {args : Array Value} {below : List Frame} {meth : Method} {c : Code} {E : Ev} {S0 : Hp} {r : (Int32 × Hp)} (C : ho_I p s m args meth c RX1 cX1_readFrom 4 (some .boolean)) :
    ∀ (k : Nat) (x2 : Int32) (x3 : Int32) (S : Hp), f_X1_readFrom_68 k x2 x3 S = some r → ho_G p l e s m args below meth c yH E S0 1 4 (some (.int r.1), r.2) 68 [(0, .ref (E.2.1 70)), (1, .ref (E.2.1 10)), (2, .int x2), (3, .int x3)] [] S := by
  intro k
  induction k with
  | zero =>
    intro x2 x3 S h
    exact absurd (show (none : Option (Int32 × Hp)) = some r from h) (by simp)
  | succ k ih =>
    intro x2 x3 S h H locs ls hR hl
    rw [f_X1_readFrom_68] at h
    refine lv_iload_n C.1 C.2.1 dX1_readFrom_68 rfl (lv_at hl 3 rfl) ?_
    refine lv_iload_n C.1 C.2.1 dX1_readFrom_69 rfl (lv_at hl 2 rfl) ?_
    refine lv_icmp_ge (tgt := 120) C.1 C.2.1 dX1_readFrom_70 (by decide) (fun hc => ?_) (fun hc => ?_)
    · replace h := if_t h hc
      refine lv_aload_n C.1 C.2.1 dX1_readFrom_120 rfl (lv_at hl 0 rfl) ?_
      refine lv_iload_n C.1 C.2.1 dX1_readFrom_121 rfl (lv_at hl 2 rfl) ?_
      obtain ⟨S1, e1, h⟩ := le1_ok h
      refine hr_putI C cf1 fH_RX1_9 hR aH_70 e1 dX1_readFrom_122 (fun H locs hR => ?_)
      refine lv_iconst (v := (1 : Int32)) C.1 C.2.1 dX1_readFrom_125 (by decide) ?_
      exact ho_zret C hR (Or.inr rfl) h dX1_readFrom_126
    · replace h := if_f h hc
      refine lv_aload_n C.1 C.2.1 dX1_readFrom_73 rfl (lv_at hl 0 rfl) ?_
      refine ho_getR (a' := 71) C cf1 fH_RX1_24 hR aH_70 rfl dX1_readFrom_74 ?_
      refine lv_iload_n C.1 C.2.1 dX1_readFrom_77 rfl (lv_at hl 3 rfl) ?_
      refine lv_aload_n C.1 C.2.1 dX1_readFrom_78 rfl (lv_at hl 1 rfl) ?_
      refine lv_iload_n C.1 C.2.1 dX1_readFrom_79 rfl (lv_at hl 3 rfl) ?_
      refine lv_iconst (v := (3 : Int32)) C.1 C.2.1 dX1_readFrom_80 (by decide) ?_
      refine lv_imul C.1 C.2.1 dX1_readFrom_81 ?_
      obtain ⟨r2, S2, h2, h⟩ := ob2_ok h
      refine hr_Vi (v := r2) (S' := S2) (As := [.int (x3 * (3 : Int32))]) (rest := [.int x3, .ref (E.2.1 71)]) C cf10 (c_X10_byteAt l E (x3 * (3 : Int32)) _ _ h2) yv_X10_byteAt lk_RX1_54 rfl aH_10 rfl rfl hl.1 (Nat.le_of_ble_eq_true rfl) (by decide) (by decide) hR (ho_A hR) dX1_readFrom_82 (fun H locs hR => ?_)
      obtain ⟨S3, e3, hi3, h⟩ := stI_ok h
      refine hr_ist C hR aH_71 hi3 e3 dX1_readFrom_85 (fun H locs hR => ?_)
      refine lv_aload_n C.1 C.2.1 dX1_readFrom_86 rfl (lv_at hl 0 rfl) ?_
      refine ho_getR (a' := 72) C cf1 fH_RX1_28 hR aH_70 rfl dX1_readFrom_87 ?_
      refine lv_iload_n C.1 C.2.1 dX1_readFrom_90 rfl (lv_at hl 3 rfl) ?_
      refine lv_aload_n C.1 C.2.1 dX1_readFrom_91 rfl (lv_at hl 1 rfl) ?_
      refine lv_iload_n C.1 C.2.1 dX1_readFrom_92 rfl (lv_at hl 3 rfl) ?_
      refine lv_iconst (v := (3 : Int32)) C.1 C.2.1 dX1_readFrom_93 (by decide) ?_
      refine lv_imul C.1 C.2.1 dX1_readFrom_94 ?_
      refine lv_iconst (v := (1 : Int32)) C.1 C.2.1 dX1_readFrom_95 (by decide) ?_
      refine lv_iadd C.1 C.2.1 dX1_readFrom_96 ?_
      obtain ⟨r4, S4, h4, h⟩ := ob2_ok h
      refine hr_Vi (v := r4) (S' := S4) (As := [.int ((x3 * (3 : Int32)) + (1 : Int32))]) (rest := [.int x3, .ref (E.2.1 72)]) C cf10 (c_X10_byteAt l E ((x3 * (3 : Int32)) + (1 : Int32)) _ _ h4) yv_X10_byteAt lk_RX1_54 rfl aH_10 rfl rfl hl.1 (Nat.le_of_ble_eq_true rfl) (by decide) (by decide) hR (ho_A hR) dX1_readFrom_97 (fun H locs hR => ?_)
      refine lv_bipush (v := (8 : Int32)) C.1 C.2.1 dX1_readFrom_100 (by decide) ?_
      refine lv_ishl C.1 C.2.1 dX1_readFrom_102 ?_
      refine lv_aload_n C.1 C.2.1 dX1_readFrom_103 rfl (lv_at hl 1 rfl) ?_
      refine lv_iload_n C.1 C.2.1 dX1_readFrom_104 rfl (lv_at hl 3 rfl) ?_
      refine lv_iconst (v := (3 : Int32)) C.1 C.2.1 dX1_readFrom_105 (by decide) ?_
      refine lv_imul C.1 C.2.1 dX1_readFrom_106 ?_
      refine lv_iconst (v := (2 : Int32)) C.1 C.2.1 dX1_readFrom_107 (by decide) ?_
      refine lv_iadd C.1 C.2.1 dX1_readFrom_108 ?_
      obtain ⟨r5, S5, h5, h⟩ := ob2_ok h
      refine hr_Vi (v := r5) (S' := S5) (As := [.int ((x3 * (3 : Int32)) + (2 : Int32))]) (rest := [.int (r4 <<< ((8 : Int32) &&& 31)), .int x3, .ref (E.2.1 72)]) C cf10 (c_X10_byteAt l E ((x3 * (3 : Int32)) + (2 : Int32)) _ _ h5) yv_X10_byteAt lk_RX1_54 rfl aH_10 rfl rfl hl.1 (Nat.le_of_ble_eq_true rfl) (by decide) (by decide) hR (ho_A hR) dX1_readFrom_109 (fun H locs hR => ?_)
      refine lv_ior C.1 C.2.1 dX1_readFrom_112 ?_
      obtain ⟨S6, e6, hi6, h⟩ := stI_ok h
      refine hr_ist C hR aH_72 hi6 e6 dX1_readFrom_113 (fun H locs hR => ?_)
      obtain ⟨v7, e7, h⟩ := le1_ok h
      refine lv_iinc (v := v7) (lv' := [(3, .int v7), (0, .ref (E.2.1 70)), (1, .ref (E.2.1 10)), (2, .int x2)]) C.1 C.2.1 dX1_readFrom_114 hl (k := 3) rfl (by rw [e7]; rfl) (by decide) rfl (fun ls hl => ?_)
      refine lv_goto (tgt := 68) C.1 C.2.1 dX1_readFrom_117 (by decide) ?_
      exact ih x2 v7 S6 h _ _ _ hR (lv_sub hl [1, 2, 3, 0] rfl)
def f_X1_readFrom_32 : Nat → Int32 → Int32 → Hp → Option (Int32 × Hp)
  | 0, _, _, _ => none
  | k + 1, x2, x3, S => if x2 ≤ x3 then f_X1_readFrom_68 5000 x2 (0 : Int32) S else ldP yH S 50 0 2 (fun p1 => ob2 (f_X10_byteAt (x3 * (3 : Int32)) S) (fun r2 S2 => ob2 (f_X2_holds p1 (0 : Int32) r2 S2) (fun r3 S3 => if r3 = 0 then some ((0 : Int32), S3) else le1 (x3 + (1 : Int32)) (fun v4 => f_X1_readFrom_32 k x2 v4 S3))))
set_option maxHeartbeats 4000000 in
set_option maxRecDepth 100000 in
theorem w_X1_readFrom_32 {p : Program} {l : Launch} {e : Env} {s : State} {m : MethodId} {args : Array Value} {below : List Frame} {meth : Method} {c : Code} {E : Ev} {S0 : Hp} {r : (Int32 × Hp)} (C : ho_I p s m args meth c RX1 cX1_readFrom 4 (some .boolean)) :
    ∀ (k : Nat) (x2 : Int32) (x3 : Int32) (S : Hp), f_X1_readFrom_32 k x2 x3 S = some r → ho_G p l e s m args below meth c yH E S0 1 4 (some (.int r.1), r.2) 32 [(0, .ref (E.2.1 70)), (1, .ref (E.2.1 10)), (2, .int x2), (3, .int x3)] [] S := by
  intro k
  induction k with
  | zero =>
    intro x2 x3 S h
    exact absurd (show (none : Option (Int32 × Hp)) = some r from h) (by simp)
  | succ k ih =>
    intro x2 x3 S h H locs ls hR hl
    rw [f_X1_readFrom_32] at h
    refine lv_iload_n C.1 C.2.1 dX1_readFrom_32 rfl (lv_at hl 3 rfl) ?_
    refine lv_iload_n C.1 C.2.1 dX1_readFrom_33 rfl (lv_at hl 2 rfl) ?_
    refine lv_icmp_ge (tgt := 66) C.1 C.2.1 dX1_readFrom_34 (by decide) (fun hc => ?_) (fun hc => ?_)
    · replace h := if_t h hc
      refine lv_iconst (v := (0 : Int32)) C.1 C.2.1 dX1_readFrom_66 (by decide) ?_
      refine lv_istore_n (lv' := [(3, .int (0 : Int32)), (0, .ref (E.2.1 70)), (1, .ref (E.2.1 10)), (2, .int x2)]) C.1 C.2.1 dX1_readFrom_67 rfl hl (by decide) rfl (fun ls hl => ?_)
      exact w_X1_readFrom_68 C 5000 x2 (0 : Int32) S h _ _ _ hR (lv_sub hl [1, 2, 3, 0] rfl)
    · replace h := if_f h hc
      refine lv_aload_n C.1 C.2.1 dX1_readFrom_37 rfl (lv_at hl 0 rfl) ?_
      refine ho_getR (a' := 50) C cf1 fH_RX1_39 hR aH_70 rfl dX1_readFrom_38 ?_
      obtain ⟨p1, e1, hp1, h⟩ := ldP_ok h
      refine hr_getP C cf8 fH_RX1_48 hR aH_50 e1 dX1_readFrom_41 ?_
      refine lv_iconst (v := (0 : Int32)) C.1 C.2.1 dX1_readFrom_44 (by decide) ?_
      refine lv_aload_n C.1 C.2.1 dX1_readFrom_45 rfl (lv_at hl 1 rfl) ?_
      refine lv_iload_n C.1 C.2.1 dX1_readFrom_46 rfl (lv_at hl 3 rfl) ?_
      refine lv_iconst (v := (3 : Int32)) C.1 C.2.1 dX1_readFrom_47 (by decide) ?_
      refine lv_imul C.1 C.2.1 dX1_readFrom_48 ?_
      obtain ⟨r2, S2, h2, h⟩ := ob2_ok h
      refine hr_Vi (v := r2) (S' := S2) (As := [.int (x3 * (3 : Int32))]) (rest := [.int (0 : Int32), .ref (E.2.1 p1)]) C cf10 (c_X10_byteAt l E (x3 * (3 : Int32)) _ _ h2) yv_X10_byteAt lk_RX1_54 rfl aH_10 rfl rfl hl.1 (Nat.le_of_ble_eq_true rfl) (by decide) (by decide) hR (ho_A hR) dX1_readFrom_49 (fun H locs hR => ?_)
      obtain ⟨r3, S3, h3, h⟩ := ob2_ok h
      refine hr_Vi (v := r3) (S' := S3) (As := [.int (0 : Int32), .int r2]) (rest := []) C cf2 (c_X2_holds l E p1 (0 : Int32) r2 hp1 _ _ h3) yv_X2_holds lk_RX1_58 rfl hp1 rfl rfl hl.1 (Nat.le_of_ble_eq_true rfl) (by decide) (by decide) hR (ho_A hR) dX1_readFrom_52 (fun H locs hR => ?_)
      refine lv_if_ne (tgt := 60) C.1 C.2.1 dX1_readFrom_55 (by decide) (fun hc => ?_) (fun hc => ?_)
      · replace h := if_f h hc
        obtain ⟨v4, e4, h⟩ := le1_ok h
        refine lv_iinc (v := v4) (lv' := [(3, .int v4), (0, .ref (E.2.1 70)), (1, .ref (E.2.1 10)), (2, .int x2)]) C.1 C.2.1 dX1_readFrom_60 hl (k := 3) rfl (by rw [e4]; rfl) (by decide) rfl (fun ls hl => ?_)
        refine lv_goto (tgt := 32) C.1 C.2.1 dX1_readFrom_63 (by decide) ?_
        exact ih x2 v4 S3 h _ _ _ hR (lv_sub hl [1, 2, 3, 0] rfl)
      · replace h := if_t h hc
        refine lv_iconst (v := (0 : Int32)) C.1 C.2.1 dX1_readFrom_58 (by decide) ?_
        exact ho_zret C hR (Or.inl rfl) h dX1_readFrom_59
def f_X1_readFrom (S : Hp) : Option (Int32 × Hp) :=
  le1 ((S.1 10 1) / (3 : Int32)) (fun v1 => if v1 < (1 : Int32) then some ((0 : Int32), S) else if (16 : Int32) < v1 then some ((0 : Int32), S) else if (v1 * (3 : Int32)) = (S.1 10 1) then f_X1_readFrom_32 5000 v1 (0 : Int32) S else some ((0 : Int32), S))
set_option maxHeartbeats 4000000 in
set_option maxRecDepth 100000 in
theorem c_X1_readFrom (l : Launch) (E : Ev) (S : Hp) (r : (Int32 × Hp)) (h : f_X1_readFrom S = some r) : ho_M l yH E yX1_readFrom cX1_readFrom 4 (some .boolean) 1 [.ref (E.2.1 70), .ref (E.2.1 10)] S (some (.int r.1), r.2) := by
  refine ho_in (by decide) (Nat.le_of_ble_eq_true rfl) ?_
  intro p e s m args below meth c C hR ls hl
  have C : ho_I p s m args meth c RX1 cX1_readFrom 4 (some .boolean) := C
  have hl : lv_has ls 4 [(0, .ref (E.2.1 70)), (1, .ref (E.2.1 10))] := hl
  unfold f_X1_readFrom at h
  refine lv_aload_n C.1 C.2.1 dX1_readFrom_0 rfl (lv_at hl 1 rfl) ?_
  refine ho_getI C cf10 fH_RX1_43 hR aH_10 dX1_readFrom_1 ?_
  refine lv_iconst (v := (3 : Int32)) C.1 C.2.1 dX1_readFrom_4 (by decide) ?_
  refine lv_idiv C.1 C.2.1 dX1_readFrom_5 (by decide) ?_
  refine lv_topi (fun v1 e1 => ?_)
  replace h := le1_at e1 h
  refine lv_istore_n (lv' := [(2, .int v1), (0, .ref (E.2.1 70)), (1, .ref (E.2.1 10))]) C.1 C.2.1 dX1_readFrom_6 rfl hl (by decide) rfl (fun ls hl => ?_)
  refine lv_iload_n C.1 C.2.1 dX1_readFrom_7 rfl (lv_at hl 0 rfl) ?_
  refine lv_iconst (v := (1 : Int32)) C.1 C.2.1 dX1_readFrom_8 (by decide) ?_
  refine lv_icmp_lt (tgt := 28) C.1 C.2.1 dX1_readFrom_9 (by decide) (fun hc => ?_) (fun hc => ?_)
  · replace h := if_t h hc
    refine lv_iconst (v := (0 : Int32)) C.1 C.2.1 dX1_readFrom_28 (by decide) ?_
    exact ho_zret C hR (Or.inl rfl) h dX1_readFrom_29
  · replace h := if_f h hc
    refine lv_iload_n C.1 C.2.1 dX1_readFrom_12 rfl (lv_at hl 0 rfl) ?_
    refine lv_bipush (v := (16 : Int32)) C.1 C.2.1 dX1_readFrom_13 (by decide) ?_
    refine lv_icmp_gt (tgt := 28) C.1 C.2.1 dX1_readFrom_15 (by decide) (fun hc => ?_) (fun hc => ?_)
    · replace h := if_t h hc
      refine lv_iconst (v := (0 : Int32)) C.1 C.2.1 dX1_readFrom_28 (by decide) ?_
      exact ho_zret C hR (Or.inl rfl) h dX1_readFrom_29
    · replace h := if_f h hc
      refine lv_iload_n C.1 C.2.1 dX1_readFrom_18 rfl (lv_at hl 0 rfl) ?_
      refine lv_iconst (v := (3 : Int32)) C.1 C.2.1 dX1_readFrom_19 (by decide) ?_
      refine lv_imul C.1 C.2.1 dX1_readFrom_20 ?_
      refine lv_aload_n C.1 C.2.1 dX1_readFrom_21 rfl (lv_at hl 2 rfl) ?_
      refine ho_getI C cf10 fH_RX1_43 hR aH_10 dX1_readFrom_22 ?_
      refine lv_icmp_eq (tgt := 30) C.1 C.2.1 dX1_readFrom_25 (by decide) (fun hc => ?_) (fun hc => ?_)
      · replace h := if_t h hc
        refine lv_iconst (v := (0 : Int32)) C.1 C.2.1 dX1_readFrom_30 (by decide) ?_
        refine lv_istore_n (lv' := [(3, .int (0 : Int32)), (2, .int v1), (0, .ref (E.2.1 70)), (1, .ref (E.2.1 10))]) C.1 C.2.1 dX1_readFrom_31 rfl hl (by decide) rfl (fun ls hl => ?_)
        exact w_X1_readFrom_32 C 5000 v1 (0 : Int32) S h _ _ _ hR (lv_sub hl [2, 3, 1, 0] rfl)
      · replace h := if_f h hc
        refine lv_iconst (v := (0 : Int32)) C.1 C.2.1 dX1_readFrom_28 (by decide) ?_
        exact ho_zret C hR (Or.inl rfl) h dX1_readFrom_29
theorem dX1_isSo_0 : decode cX1_isSo 0 = .ok (.iconst 0, 1) := by decide +kernel
theorem dX1_isSo_1 : decode cX1_isSo 1 = .ok (.istore_n 1, 1) := by decide +kernel
theorem dX1_isSo_2 : decode cX1_isSo 2 = .ok (.iload_n 1, 1) := by decide +kernel
theorem dX1_isSo_3 : decode cX1_isSo 3 = .ok (.aload_n 0, 1) := by decide +kernel
theorem dX1_isSo_4 : decode cX1_isSo 4 = .ok (.getfield 9, 3) := by decide +kernel
theorem dX1_isSo_7 : decode cX1_isSo 7 = .ok (.if_icmp .ge 34, 3) := by decide +kernel
theorem dX1_isSo_10 : decode cX1_isSo 10 = .ok (.aload_n 0, 1) := by decide +kernel
theorem dX1_isSo_11 : decode cX1_isSo 11 = .ok (.getfield 39, 3) := by decide +kernel
theorem dX1_isSo_14 : decode cX1_isSo 14 = .ok (.getfield 87, 3) := by decide +kernel
theorem dX1_isSo_17 : decode cX1_isSo 17 = .ok (.aload_n 0, 1) := by decide +kernel
theorem dX1_isSo_18 : decode cX1_isSo 18 = .ok (.getfield 24, 3) := by decide +kernel
theorem dX1_isSo_21 : decode cX1_isSo 21 = .ok (.iload_n 1, 1) := by decide +kernel
theorem dX1_isSo_22 : decode cX1_isSo 22 = .ok (.iaload, 1) := by decide +kernel
theorem dX1_isSo_23 : decode cX1_isSo 23 = .ok (.iaload, 1) := by decide +kernel
theorem dX1_isSo_24 : decode cX1_isSo 24 = .ok (.aload_n 0, 1) := by decide +kernel
theorem dX1_isSo_25 : decode cX1_isSo 25 = .ok (.getfield 28, 3) := by decide +kernel
theorem dX1_isSo_28 : decode cX1_isSo 28 = .ok (.iload_n 1, 1) := by decide +kernel
theorem dX1_isSo_29 : decode cX1_isSo 29 = .ok (.iaload, 1) := by decide +kernel
theorem dX1_isSo_30 : decode cX1_isSo 30 = .ok (.if_icmp .eq 5, 3) := by decide +kernel
theorem dX1_isSo_33 : decode cX1_isSo 33 = .ok (.iconst 0, 1) := by decide +kernel
theorem dX1_isSo_34 : decode cX1_isSo 34 = .ok (.ireturn, 1) := by decide +kernel
theorem dX1_isSo_35 : decode cX1_isSo 35 = .ok (.iinc 1 1, 3) := by decide +kernel
theorem dX1_isSo_38 : decode cX1_isSo 38 = .ok (.goto (-36), 3) := by decide +kernel
theorem dX1_isSo_41 : decode cX1_isSo 41 = .ok (.iconst 1, 1) := by decide +kernel
theorem dX1_isSo_42 : decode cX1_isSo 42 = .ok (.ireturn, 1) := by decide +kernel
def f_X1_isSo_2 : Nat → Int32 → Hp → Option (Int32 × Hp)
  | 0, _, _ => none
  | k + 1, x1, S => if (S.1 70 0) ≤ x1 then some ((1 : Int32), S) else ldI S 71 16 x1 (fun v1 => ldI S 52 6 v1 (fun v2 => ldI S 72 16 x1 (fun v3 => if v2 = v3 then le1 (x1 + (1 : Int32)) (fun v4 => f_X1_isSo_2 k v4 S) else some ((0 : Int32), S))))
set_option maxHeartbeats 4000000 in
set_option maxRecDepth 100000 in
theorem w_X1_isSo_2 {p : Program} {l : Launch} {e : Env} {s : State} {m : MethodId} {args : Array Value} {below : List Frame} {meth : Method} {c : Code} {E : Ev} {S0 : Hp} {r : (Int32 × Hp)} (C : ho_I p s m args meth c RX1 cX1_isSo 2 (some .boolean)) :
    ∀ (k : Nat) (x1 : Int32) (S : Hp), f_X1_isSo_2 k x1 S = some r → ho_G p l e s m args below meth c yH E S0 0 2 (some (.int r.1), r.2) 2 [(0, .ref (E.2.1 70)), (1, .int x1)] [] S := by
  intro k
  induction k with
  | zero =>
    intro x1 S h
    exact absurd (show (none : Option (Int32 × Hp)) = some r from h) (by simp)
  | succ k ih =>
    intro x1 S h H locs ls hR hl
    rw [f_X1_isSo_2] at h
    refine lv_iload_n C.1 C.2.1 dX1_isSo_2 rfl (lv_at hl 1 rfl) ?_
    refine lv_aload_n C.1 C.2.1 dX1_isSo_3 rfl (lv_at hl 0 rfl) ?_
    refine ho_getI C cf1 fH_RX1_9 hR aH_70 dX1_isSo_4 ?_
    refine lv_icmp_ge (tgt := 41) C.1 C.2.1 dX1_isSo_7 (by decide) (fun hc => ?_) (fun hc => ?_)
    · replace h := if_t h hc
      refine lv_iconst (v := (1 : Int32)) C.1 C.2.1 dX1_isSo_41 (by decide) ?_
      exact ho_zret C hR (Or.inr rfl) h dX1_isSo_42
    · replace h := if_f h hc
      refine lv_aload_n C.1 C.2.1 dX1_isSo_10 rfl (lv_at hl 0 rfl) ?_
      refine ho_getR (a' := 50) C cf1 fH_RX1_39 hR aH_70 rfl dX1_isSo_11 ?_
      refine ho_getR (a' := 52) C cf8 fH_RX1_87 hR aH_50 rfl dX1_isSo_14 ?_
      refine lv_aload_n C.1 C.2.1 dX1_isSo_17 rfl (lv_at hl 0 rfl) ?_
      refine ho_getR (a' := 71) C cf1 fH_RX1_24 hR aH_70 rfl dX1_isSo_18 ?_
      refine lv_iload_n C.1 C.2.1 dX1_isSo_21 rfl (lv_at hl 1 rfl) ?_
      obtain ⟨v1, e1, hi1, h⟩ := ldI_ok h
      refine hr_ild C hR aH_71 hi1 e1 dX1_isSo_22 ?_
      obtain ⟨v2, e2, hi2, h⟩ := ldI_ok h
      refine hr_ild C hR aH_52 hi2 e2 dX1_isSo_23 ?_
      refine lv_aload_n C.1 C.2.1 dX1_isSo_24 rfl (lv_at hl 0 rfl) ?_
      refine ho_getR (a' := 72) C cf1 fH_RX1_28 hR aH_70 rfl dX1_isSo_25 ?_
      refine lv_iload_n C.1 C.2.1 dX1_isSo_28 rfl (lv_at hl 1 rfl) ?_
      obtain ⟨v3, e3, hi3, h⟩ := ldI_ok h
      refine hr_ild C hR aH_72 hi3 e3 dX1_isSo_29 ?_
      refine lv_icmp_eq (tgt := 35) C.1 C.2.1 dX1_isSo_30 (by decide) (fun hc => ?_) (fun hc => ?_)
      · replace h := if_t h hc
        obtain ⟨v4, e4, h⟩ := le1_ok h
        refine lv_iinc (v := v4) (lv' := [(1, .int v4), (0, .ref (E.2.1 70))]) C.1 C.2.1 dX1_isSo_35 hl (k := 1) rfl (by rw [e4]; rfl) (by decide) rfl (fun ls hl => ?_)
        refine lv_goto (tgt := 2) C.1 C.2.1 dX1_isSo_38 (by decide) ?_
        exact ih v4 S h _ _ _ hR (lv_sub hl [1, 0] rfl)
      · replace h := if_f h hc
        refine lv_iconst (v := (0 : Int32)) C.1 C.2.1 dX1_isSo_33 (by decide) ?_
        exact ho_zret C hR (Or.inl rfl) h dX1_isSo_34
def f_X1_isSo (S : Hp) : Option (Int32 × Hp) :=
  f_X1_isSo_2 5000 (0 : Int32) S
set_option maxHeartbeats 4000000 in
set_option maxRecDepth 100000 in
theorem c_X1_isSo (l : Launch) (E : Ev) (S : Hp) (r : (Int32 × Hp)) (h : f_X1_isSo S = some r) : ho_M l yH E yX1_isSo cX1_isSo 2 (some .boolean) 0 [.ref (E.2.1 70)] S (some (.int r.1), r.2) := by
  refine ho_in (by decide) (Nat.le_of_ble_eq_true rfl) ?_
  intro p e s m args below meth c C hR ls hl
  have C : ho_I p s m args meth c RX1 cX1_isSo 2 (some .boolean) := C
  have hl : lv_has ls 2 [(0, .ref (E.2.1 70))] := hl
  unfold f_X1_isSo at h
  refine lv_iconst (v := (0 : Int32)) C.1 C.2.1 dX1_isSo_0 (by decide) ?_
  refine lv_istore_n (lv' := [(1, .int (0 : Int32)), (0, .ref (E.2.1 70))]) C.1 C.2.1 dX1_isSo_1 rfl hl (by decide) rfl (fun ls hl => ?_)
  exact w_X1_isSo_2 C 5000 (0 : Int32) S h _ _ _ hR (lv_sub hl [1, 0] rfl)
theorem dX1_addFitting_0 : decode cX1_addFitting 0 = .ok (.aload_n 0, 1) := by decide +kernel
theorem dX1_addFitting_1 : decode cX1_addFitting 1 = .ok (.getfield 31, 3) := by decide +kernel
theorem dX1_addFitting_4 : decode cX1_addFitting 4 = .ok (.aload_n 0, 1) := by decide +kernel
theorem dX1_addFitting_5 : decode cX1_addFitting 5 = .ok (.getfield 15, 3) := by decide +kernel
theorem dX1_addFitting_8 : decode cX1_addFitting 8 = .ok (.iload_n 1, 1) := by decide +kernel
theorem dX1_addFitting_9 : decode cX1_addFitting 9 = .ok (.iastore, 1) := by decide +kernel
theorem dX1_addFitting_10 : decode cX1_addFitting 10 = .ok (.iconst 0, 1) := by decide +kernel
theorem dX1_addFitting_11 : decode cX1_addFitting 11 = .ok (.istore_n 2, 1) := by decide +kernel
theorem dX1_addFitting_12 : decode cX1_addFitting 12 = .ok (.iload_n 2, 1) := by decide +kernel
theorem dX1_addFitting_13 : decode cX1_addFitting 13 = .ok (.bipush 6, 2) := by decide +kernel
theorem dX1_addFitting_15 : decode cX1_addFitting 15 = .ok (.if_icmp .ge 29, 3) := by decide +kernel
theorem dX1_addFitting_18 : decode cX1_addFitting 18 = .ok (.aload_n 0, 1) := by decide +kernel
theorem dX1_addFitting_19 : decode cX1_addFitting 19 = .ok (.getfield 36, 3) := by decide +kernel
theorem dX1_addFitting_22 : decode cX1_addFitting 22 = .ok (.iload_n 2, 1) := by decide +kernel
theorem dX1_addFitting_23 : decode cX1_addFitting 23 = .ok (.aaload, 1) := by decide +kernel
theorem dX1_addFitting_24 : decode cX1_addFitting 24 = .ok (.aload_n 0, 1) := by decide +kernel
theorem dX1_addFitting_25 : decode cX1_addFitting 25 = .ok (.getfield 15, 3) := by decide +kernel
theorem dX1_addFitting_28 : decode cX1_addFitting 28 = .ok (.aload_n 0, 1) := by decide +kernel
theorem dX1_addFitting_29 : decode cX1_addFitting 29 = .ok (.getfield 39, 3) := by decide +kernel
theorem dX1_addFitting_32 : decode cX1_addFitting 32 = .ok (.getfield 87, 3) := by decide +kernel
theorem dX1_addFitting_35 : decode cX1_addFitting 35 = .ok (.iload_n 2, 1) := by decide +kernel
theorem dX1_addFitting_36 : decode cX1_addFitting 36 = .ok (.iaload, 1) := by decide +kernel
theorem dX1_addFitting_37 : decode cX1_addFitting 37 = .ok (.iastore, 1) := by decide +kernel
theorem dX1_addFitting_38 : decode cX1_addFitting 38 = .ok (.iinc 2 1, 3) := by decide +kernel
theorem dX1_addFitting_41 : decode cX1_addFitting 41 = .ok (.goto (-29), 3) := by decide +kernel
theorem dX1_addFitting_44 : decode cX1_addFitting 44 = .ok (.aload_n 0, 1) := by decide +kernel
theorem dX1_addFitting_45 : decode cX1_addFitting 45 = .ok (.dup, 1) := by decide +kernel
theorem dX1_addFitting_46 : decode cX1_addFitting 46 = .ok (.getfield 15, 3) := by decide +kernel
theorem dX1_addFitting_49 : decode cX1_addFitting 49 = .ok (.iconst 1, 1) := by decide +kernel
theorem dX1_addFitting_50 : decode cX1_addFitting 50 = .ok (.iadd, 1) := by decide +kernel
theorem dX1_addFitting_51 : decode cX1_addFitting 51 = .ok (.putfield 15, 3) := by decide +kernel
theorem dX1_addFitting_54 : decode cX1_addFitting 54 = .ok (.return_, 1) := by decide +kernel
def f_X1_addFitting_12 : Nat → Int32 → Hp → Option Hp
  | 0, _, _ => none
  | k + 1, x2, S => if (6 : Int32) ≤ x2 then le1 (ho_sI S 70 1 ((S.1 70 1) + (1 : Int32))) (fun S1 => some S1) else ldR yH 74 6 x2 4 64 (fun p2 => ldI S 52 6 x2 (fun v3 => stI S p2 64 (S.1 70 1) v3 (fun S4 => le1 (x2 + (1 : Int32)) (fun v5 => f_X1_addFitting_12 k v5 S4))))
set_option maxHeartbeats 4000000 in
set_option maxRecDepth 100000 in
theorem w_X1_addFitting_12 {p : Program} {l : Launch} {e : Env} {s : State} {m : MethodId} {args : Array Value} {below : List Frame} {meth : Method} {c : Code} {E : Ev} {S0 : Hp} {r : Hp} (C : ho_I p s m args meth c RX1 cX1_addFitting 3 none) :
    ∀ (k : Nat) (x2 : Int32) (S : Hp), f_X1_addFitting_12 k x2 S = some r → ho_G p l e s m args below meth c yH E S0 0 3 (none, r) 12 [(0, .ref (E.2.1 70)), (2, .int x2)] [] S := by
  intro k
  induction k with
  | zero =>
    intro x2 S h
    exact absurd (show (none : Option Hp) = some r from h) (by simp)
  | succ k ih =>
    intro x2 S h H locs ls hR hl
    rw [f_X1_addFitting_12] at h
    refine lv_iload_n C.1 C.2.1 dX1_addFitting_12 rfl (lv_at hl 1 rfl) ?_
    refine lv_bipush (v := (6 : Int32)) C.1 C.2.1 dX1_addFitting_13 (by decide) ?_
    refine lv_icmp_ge (tgt := 44) C.1 C.2.1 dX1_addFitting_15 (by decide) (fun hc => ?_) (fun hc => ?_)
    · replace h := if_t h hc
      refine lv_aload_n C.1 C.2.1 dX1_addFitting_44 rfl (lv_at hl 0 rfl) ?_
      refine lv_dup C.1 C.2.1 dX1_addFitting_45 rfl ?_
      refine ho_getI C cf1 fH_RX1_15 hR aH_70 dX1_addFitting_46 ?_
      refine lv_iconst (v := (1 : Int32)) C.1 C.2.1 dX1_addFitting_49 (by decide) ?_
      refine lv_iadd C.1 C.2.1 dX1_addFitting_50 ?_
      obtain ⟨S1, e1, h⟩ := le1_ok h
      refine hr_putI C cf1 fH_RX1_15 hR aH_70 e1 dX1_addFitting_51 (fun H locs hR => ?_)
      exact ho_vret C hR h dX1_addFitting_54
    · replace h := if_f h hc
      refine lv_aload_n C.1 C.2.1 dX1_addFitting_18 rfl (lv_at hl 0 rfl) ?_
      refine ho_getR (a' := 74) C cf1 fH_RX1_36 hR aH_70 rfl dX1_addFitting_19 ?_
      refine lv_iload_n C.1 C.2.1 dX1_addFitting_22 rfl (lv_at hl 1 rfl) ?_
      obtain ⟨p2, e2, hi2, hp2, h⟩ := ldR_ok h
      refine hr_rld C hR aH_74 hi2 e2 dX1_addFitting_23 ?_
      refine lv_aload_n C.1 C.2.1 dX1_addFitting_24 rfl (lv_at hl 0 rfl) ?_
      refine ho_getI C cf1 fH_RX1_15 hR aH_70 dX1_addFitting_25 ?_
      refine lv_aload_n C.1 C.2.1 dX1_addFitting_28 rfl (lv_at hl 0 rfl) ?_
      refine ho_getR (a' := 50) C cf1 fH_RX1_39 hR aH_70 rfl dX1_addFitting_29 ?_
      refine ho_getR (a' := 52) C cf8 fH_RX1_87 hR aH_50 rfl dX1_addFitting_32 ?_
      refine lv_iload_n C.1 C.2.1 dX1_addFitting_35 rfl (lv_at hl 1 rfl) ?_
      obtain ⟨v3, e3, hi3, h⟩ := ldI_ok h
      refine hr_ild C hR aH_52 hi3 e3 dX1_addFitting_36 ?_
      obtain ⟨S4, e4, hi4, h⟩ := stI_ok h
      refine hr_ist C hR hp2 hi4 e4 dX1_addFitting_37 (fun H locs hR => ?_)
      obtain ⟨v5, e5, h⟩ := le1_ok h
      refine lv_iinc (v := v5) (lv' := [(2, .int v5), (0, .ref (E.2.1 70))]) C.1 C.2.1 dX1_addFitting_38 hl (k := 1) rfl (by rw [e5]; rfl) (by decide) rfl (fun ls hl => ?_)
      refine lv_goto (tgt := 12) C.1 C.2.1 dX1_addFitting_41 (by decide) ?_
      exact ih v5 S4 h _ _ _ hR (lv_sub hl [1, 0] rfl)
def f_X1_addFitting (x1 : Int32) (S : Hp) : Option Hp :=
  stI S 73 64 (S.1 70 1) x1 (fun S1 => f_X1_addFitting_12 5000 (0 : Int32) S1)
set_option maxHeartbeats 4000000 in
set_option maxRecDepth 100000 in
theorem c_X1_addFitting (l : Launch) (E : Ev) (x1 : Int32) (S : Hp) (r : Hp) (h : f_X1_addFitting x1 S = some r) : ho_M l yH E yX1_addFitting cX1_addFitting 3 none 0 [.ref (E.2.1 70), .int x1] S (none, r) := by
  refine ho_in (by decide) (Nat.le_of_ble_eq_true rfl) ?_
  intro p e s m args below meth c C hR ls hl
  have C : ho_I p s m args meth c RX1 cX1_addFitting 3 none := C
  have hl : lv_has ls 3 [(0, .ref (E.2.1 70)), (1, .int x1)] := hl
  unfold f_X1_addFitting at h
  refine lv_aload_n C.1 C.2.1 dX1_addFitting_0 rfl (lv_at hl 0 rfl) ?_
  refine ho_getR (a' := 73) C cf1 fH_RX1_31 hR aH_70 rfl dX1_addFitting_1 ?_
  refine lv_aload_n C.1 C.2.1 dX1_addFitting_4 rfl (lv_at hl 0 rfl) ?_
  refine ho_getI C cf1 fH_RX1_15 hR aH_70 dX1_addFitting_5 ?_
  refine lv_iload_n C.1 C.2.1 dX1_addFitting_8 rfl (lv_at hl 1 rfl) ?_
  obtain ⟨S1, e1, hi1, h⟩ := stI_ok h
  refine hr_ist C hR aH_73 hi1 e1 dX1_addFitting_9 (fun H locs hR => ?_)
  refine lv_iconst (v := (0 : Int32)) C.1 C.2.1 dX1_addFitting_10 (by decide) ?_
  refine lv_istore_n (lv' := [(2, .int (0 : Int32)), (0, .ref (E.2.1 70)), (1, .int x1)]) C.1 C.2.1 dX1_addFitting_11 rfl hl (by decide) rfl (fun ls hl => ?_)
  exact w_X1_addFitting_12 C 5000 (0 : Int32) S1 h _ _ _ hR (lv_sub hl [1, 0] rfl)
