theorem dX11_drop_0 : decode cX11_drop 0 = .ok (.aload_n 0, 1) := by decide +kernel
theorem dX11_drop_1 : decode cX11_drop 1 = .ok (.getfield 94, 3) := by decide +kernel
theorem dX11_drop_4 : decode cX11_drop 4 = .ok (.ifCond .eq 18, 3) := by decide +kernel
theorem dX11_drop_7 : decode cX11_drop 7 = .ok (.aload_n 0, 1) := by decide +kernel
theorem dX11_drop_8 : decode cX11_drop 8 = .ok (.getfield 58, 3) := by decide +kernel
theorem dX11_drop_11 : decode cX11_drop 11 = .ok (.aload_n 0, 1) := by decide +kernel
theorem dX11_drop_12 : decode cX11_drop 12 = .ok (.getfield 79, 3) := by decide +kernel
theorem dX11_drop_15 : decode cX11_drop 15 = .ok (.iload_n 1, 1) := by decide +kernel
theorem dX11_drop_16 : decode cX11_drop 16 = .ok (.invokevirtual 254, 3) := by decide +kernel
theorem dX11_drop_19 : decode cX11_drop 19 = .ok (.ifCond .ne 5, 3) := by decide +kernel
theorem dX11_drop_22 : decode cX11_drop 22 = .ok (.iconst (-1), 1) := by decide +kernel
theorem dX11_drop_23 : decode cX11_drop 23 = .ok (.ireturn, 1) := by decide +kernel
theorem dX11_drop_24 : decode cX11_drop 24 = .ok (.iconst 0, 1) := by decide +kernel
theorem dX11_drop_25 : decode cX11_drop 25 = .ok (.istore_n 2, 1) := by decide +kernel
theorem dX11_drop_26 : decode cX11_drop 26 = .ok (.iconst 1, 1) := by decide +kernel
theorem dX11_drop_27 : decode cX11_drop 27 = .ok (.istore_n 3, 1) := by decide +kernel
theorem dX11_drop_28 : decode cX11_drop 28 = .ok (.iload_n 3, 1) := by decide +kernel
theorem dX11_drop_29 : decode cX11_drop 29 = .ok (.iload_n 1, 1) := by decide +kernel
theorem dX11_drop_30 : decode cX11_drop 30 = .ok (.if_icmp .gt 30, 3) := by decide +kernel
theorem dX11_drop_33 : decode cX11_drop 33 = .ok (.aload_n 0, 1) := by decide +kernel
theorem dX11_drop_34 : decode cX11_drop 34 = .ok (.getfield 58, 3) := by decide +kernel
theorem dX11_drop_37 : decode cX11_drop 37 = .ok (.iload_n 3, 1) := by decide +kernel
theorem dX11_drop_38 : decode cX11_drop 38 = .ok (.invokevirtual 276, 3) := by decide +kernel
theorem dX11_drop_41 : decode cX11_drop 41 = .ok (.aload_n 0, 1) := by decide +kernel
theorem dX11_drop_42 : decode cX11_drop 42 = .ok (.getfield 58, 3) := by decide +kernel
theorem dX11_drop_45 : decode cX11_drop 45 = .ok (.iload_n 2, 1) := by decide +kernel
theorem dX11_drop_46 : decode cX11_drop 46 = .ok (.invokevirtual 276, 3) := by decide +kernel
theorem dX11_drop_49 : decode cX11_drop 49 = .ok (.if_icmp .le 5, 3) := by decide +kernel
theorem dX11_drop_52 : decode cX11_drop 52 = .ok (.iload_n 3, 1) := by decide +kernel
theorem dX11_drop_53 : decode cX11_drop 53 = .ok (.istore_n 2, 1) := by decide +kernel
theorem dX11_drop_54 : decode cX11_drop 54 = .ok (.iinc 3 1, 3) := by decide +kernel
theorem dX11_drop_57 : decode cX11_drop 57 = .ok (.goto (-29), 3) := by decide +kernel
theorem dX11_drop_60 : decode cX11_drop 60 = .ok (.iload_n 2, 1) := by decide +kernel
theorem dX11_drop_61 : decode cX11_drop 61 = .ok (.ireturn, 1) := by decide +kernel
def f_X11_drop_54 (K28 : Int32 → Int32 → Int32 → Hp → Option (Int32 × Hp)) (x1 : Int32) (x2 : Int32) (x3 : Int32) (S : Hp) : Option (Int32 × Hp) :=
  le1 (x3 + (1 : Int32)) (fun v1 => K28 x1 x2 v1 S)
set_option maxHeartbeats 4000000 in
set_option maxRecDepth 100000 in
theorem w_X11_drop_54 {p : Program} {l : Launch} {e : Env} {s : State} {m : MethodId} {args : Array Value} {below : List Frame} {meth : Method} {c : Code} {E : Ev} {S0 : Hp} {r : (Int32 × Hp)} (C : ho_I p s m args meth c RX11 cX11_drop 4 (some .int)) (K28 : Int32 → Int32 → Int32 → Hp → Option (Int32 × Hp)) (hK28 : ∀ (y1 : Int32) (y2 : Int32) (y3 : Int32) (S : Hp), K28 y1 y2 y3 S = some r → ho_G p l e s m args below meth c yH E S0 7 4 (some (.int r.1), r.2) 28 [(0, .ref (E.2.1 0)), (1, .int y1), (2, .int y2), (3, .int y3)] [] S) :
    ∀ (x1 : Int32) (x2 : Int32) (x3 : Int32) (S : Hp), f_X11_drop_54 K28 x1 x2 x3 S = some r → ho_G p l e s m args below meth c yH E S0 7 4 (some (.int r.1), r.2) 54 [(0, .ref (E.2.1 0)), (1, .int x1), (2, .int x2), (3, .int x3)] [] S := by
  intro x1 x2 x3 S h H locs ls hR hl
  unfold f_X11_drop_54 at h
  obtain ⟨v1, e1, h⟩ := le1_ok h
  refine lv_iinc (v := v1) (lv' := [(3, .int v1), (0, .ref (E.2.1 0)), (1, .int x1), (2, .int x2)]) C.1 C.2.1 dX11_drop_54 hl (k := 3) rfl (by rw [e1]; rfl) (by decide) rfl (fun ls hl => ?_)
  refine lv_goto (tgt := 28) C.1 C.2.1 dX11_drop_57 (by decide) ?_
  exact hK28 x1 x2 v1 S h _ _ _ hR (lv_sub hl [1, 2, 3, 0] rfl)
def f_X11_drop_28 : Nat → Int32 → Int32 → Int32 → Hp → Option (Int32 × Hp)
  | 0, _, _, _, _ => none
  | k + 1, x1, x2, x3, S => if x1 < x3 then some (x2, S) else ob2 (f_X0_worth x3 S) (fun r1 S1 => ob2 (f_X0_worth x2 S1) (fun r2 S2 => if r1 ≤ r2 then f_X11_drop_54 (f_X11_drop_28 k) x1 x2 x3 S2 else f_X11_drop_54 (f_X11_drop_28 k) x1 x3 x3 S2))
set_option maxHeartbeats 4000000 in
set_option maxRecDepth 100000 in
theorem w_X11_drop_28 {p : Program} {l : Launch} {e : Env} {s : State} {m : MethodId} {args : Array Value} {below : List Frame} {meth : Method} {c : Code} {E : Ev} {S0 : Hp} {r : (Int32 × Hp)} (C : ho_I p s m args meth c RX11 cX11_drop 4 (some .int)) :
    ∀ (k : Nat) (x1 : Int32) (x2 : Int32) (x3 : Int32) (S : Hp), f_X11_drop_28 k x1 x2 x3 S = some r → ho_G p l e s m args below meth c yH E S0 7 4 (some (.int r.1), r.2) 28 [(0, .ref (E.2.1 0)), (1, .int x1), (2, .int x2), (3, .int x3)] [] S := by
  intro k
  induction k with
  | zero =>
    intro x1 x2 x3 S h
    exact absurd (show (none : Option (Int32 × Hp)) = some r from h) (by simp)
  | succ k ih =>
    intro x1 x2 x3 S h H locs ls hR hl
    rw [f_X11_drop_28] at h
    refine lv_iload_n C.1 C.2.1 dX11_drop_28 rfl (lv_at hl 3 rfl) ?_
    refine lv_iload_n C.1 C.2.1 dX11_drop_29 rfl (lv_at hl 1 rfl) ?_
    refine lv_icmp_gt (tgt := 60) C.1 C.2.1 dX11_drop_30 (by decide) (fun hc => ?_) (fun hc => ?_)
    · replace h := if_t h hc
      refine lv_iload_n C.1 C.2.1 dX11_drop_60 rfl (lv_at hl 2 rfl) ?_
      exact ho_iret C hR h dX11_drop_61
    · replace h := if_f h hc
      refine lv_aload_n C.1 C.2.1 dX11_drop_33 rfl (lv_at hl 0 rfl) ?_
      refine ho_getR (a' := 60) C cf11 fH_RX11_58 hR aH_0 rfl dX11_drop_34 ?_
      refine lv_iload_n C.1 C.2.1 dX11_drop_37 rfl (lv_at hl 3 rfl) ?_
      obtain ⟨r1, S1, h1, h⟩ := ob2_ok h
      refine hr_Vi (v := r1) (S' := S1) (As := [.int x3]) (rest := []) C cf0 (c_X0_worth l E x3 _ _ h1) yv_X0_worth lk_RX11_276 rfl aH_60 rfl rfl hl.1 (Nat.le_of_ble_eq_true rfl) (by decide) (by decide) hR (ho_A hR) dX11_drop_38 (fun H locs hR => ?_)
      refine lv_aload_n C.1 C.2.1 dX11_drop_41 rfl (lv_at hl 0 rfl) ?_
      refine ho_getR (a' := 60) C cf11 fH_RX11_58 hR aH_0 rfl dX11_drop_42 ?_
      refine lv_iload_n C.1 C.2.1 dX11_drop_45 rfl (lv_at hl 2 rfl) ?_
      obtain ⟨r2, S2, h2, h⟩ := ob2_ok h
      refine hr_Vi (v := r2) (S' := S2) (As := [.int x2]) (rest := [.int r1]) C cf0 (c_X0_worth l E x2 _ _ h2) yv_X0_worth lk_RX11_276 rfl aH_60 rfl rfl hl.1 (Nat.le_of_ble_eq_true rfl) (by decide) (by decide) hR (ho_A hR) dX11_drop_46 (fun H locs hR => ?_)
      refine lv_icmp_le (tgt := 54) C.1 C.2.1 dX11_drop_49 (by decide) (fun hc => ?_) (fun hc => ?_)
      · replace h := if_t h hc
        exact w_X11_drop_54 C (f_X11_drop_28 k) ih x1 x2 x3 S2 h _ _ _ hR (lv_sub hl [0, 1, 2, 3] rfl)
      · replace h := if_f h hc
        refine lv_iload_n C.1 C.2.1 dX11_drop_52 rfl (lv_at hl 3 rfl) ?_
        refine lv_istore_n (lv' := [(2, .int x3), (0, .ref (E.2.1 0)), (1, .int x1), (3, .int x3)]) C.1 C.2.1 dX11_drop_53 rfl hl (by decide) rfl (fun ls hl => ?_)
        exact w_X11_drop_54 C (f_X11_drop_28 k) ih x1 x3 x3 S2 h _ _ _ hR (lv_sub hl [1, 2, 0, 3] rfl)
def f_X11_drop (x1 : Int32) (S : Hp) : Option (Int32 × Hp) :=
  if (S.1 0 13) = 0 then some ((-1 : Int32), S) else ob2 (f_X0_reach 1200 x1 S) (fun r1 S1 => if r1 = 0 then some ((-1 : Int32), S1) else f_X11_drop_28 5000 x1 (0 : Int32) (1 : Int32) S1)
set_option maxHeartbeats 4000000 in
set_option maxRecDepth 100000 in
theorem c_X11_drop (l : Launch) (E : Ev) (x1 : Int32) (S : Hp) (r : (Int32 × Hp)) (h : f_X11_drop x1 S = some r) : ho_M l yH E yX11_drop cX11_drop 4 (some .int) 7 [.ref (E.2.1 0), .int x1] S (some (.int r.1), r.2) := by
  refine ho_in (by decide) (Nat.le_of_ble_eq_true rfl) ?_
  intro p e s m args below meth c C hR ls hl
  have C : ho_I p s m args meth c RX11 cX11_drop 4 (some .int) := C
  have hl : lv_has ls 4 [(0, .ref (E.2.1 0)), (1, .int x1)] := hl
  unfold f_X11_drop at h
  refine lv_aload_n C.1 C.2.1 dX11_drop_0 rfl (lv_at hl 0 rfl) ?_
  refine ho_getI C cf11 fH_RX11_94 hR aH_0 dX11_drop_1 ?_
  refine lv_if_eq (tgt := 22) C.1 C.2.1 dX11_drop_4 (by decide) (fun hc => ?_) (fun hc => ?_)
  · replace h := if_t h hc
    refine lv_iconst (v := (-1 : Int32)) C.1 C.2.1 dX11_drop_22 (by decide) ?_
    exact ho_iret C hR h dX11_drop_23
  · replace h := if_f h hc
    refine lv_aload_n C.1 C.2.1 dX11_drop_7 rfl (lv_at hl 0 rfl) ?_
    refine ho_getR (a' := 60) C cf11 fH_RX11_58 hR aH_0 rfl dX11_drop_8 ?_
    refine lv_aload_n C.1 C.2.1 dX11_drop_11 rfl (lv_at hl 0 rfl) ?_
    refine ho_getR (a' := 1200) C cf11 fH_RX11_79 hR aH_0 rfl dX11_drop_12 ?_
    refine lv_iload_n C.1 C.2.1 dX11_drop_15 rfl (lv_at hl 1 rfl) ?_
    obtain ⟨r1, S1, h1, h⟩ := ob2_ok h
    refine hr_Vi (v := r1) (S' := S1) (As := [.ref (E.2.1 1200), .int x1]) (rest := []) C cf0 (c_X0_reach l E 1200 x1 aH_1200 _ _ h1) yv_X0_reach lk_RX11_254 rfl aH_60 rfl rfl hl.1 (Nat.le_of_ble_eq_true rfl) (by decide) (by decide) hR (ho_A hR) dX11_drop_16 (fun H locs hR => ?_)
    refine lv_if_ne (tgt := 24) C.1 C.2.1 dX11_drop_19 (by decide) (fun hc => ?_) (fun hc => ?_)
    · replace h := if_f h hc
      refine lv_iconst (v := (0 : Int32)) C.1 C.2.1 dX11_drop_24 (by decide) ?_
      refine lv_istore_n (lv' := [(2, .int (0 : Int32)), (0, .ref (E.2.1 0)), (1, .int x1)]) C.1 C.2.1 dX11_drop_25 rfl hl (by decide) rfl (fun ls hl => ?_)
      refine lv_iconst (v := (1 : Int32)) C.1 C.2.1 dX11_drop_26 (by decide) ?_
      refine lv_istore_n (lv' := [(3, .int (1 : Int32)), (2, .int (0 : Int32)), (0, .ref (E.2.1 0)), (1, .int x1)]) C.1 C.2.1 dX11_drop_27 rfl hl (by decide) rfl (fun ls hl => ?_)
      exact w_X11_drop_28 C 5000 x1 (0 : Int32) (1 : Int32) S1 h _ _ _ hR (lv_sub hl [2, 3, 1, 0] rfl)
    · replace h := if_t h hc
      refine lv_iconst (v := (-1 : Int32)) C.1 C.2.1 dX11_drop_22 (by decide) ?_
      exact ho_iret C hR h dX11_drop_23
theorem dX11_count_0 : decode cX11_count 0 = .ok (.aload_n 0, 1) := by decide +kernel
theorem dX11_count_1 : decode cX11_count 1 = .ok (.getfield 65, 3) := by decide +kernel
theorem dX11_count_4 : decode cX11_count 4 = .ok (.aload_n 0, 1) := by decide +kernel
theorem dX11_count_5 : decode cX11_count 5 = .ok (.getfield 10, 3) := by decide +kernel
theorem dX11_count_8 : decode cX11_count 8 = .ok (.invokevirtual 279, 3) := by decide +kernel
theorem dX11_count_11 : decode cX11_count 11 = .ok (.istore_n 1, 1) := by decide +kernel
theorem dX11_count_12 : decode cX11_count 12 = .ok (.aload_n 0, 1) := by decide +kernel
theorem dX11_count_13 : decode cX11_count 13 = .ok (.getfield 10, 3) := by decide +kernel
theorem dX11_count_16 : decode cX11_count 16 = .ok (.iconst 0, 1) := by decide +kernel
theorem dX11_count_17 : decode cX11_count 17 = .ok (.putfield 108, 3) := by decide +kernel
theorem dX11_count_20 : decode cX11_count 20 = .ok (.iload_n 1, 1) := by decide +kernel
theorem dX11_count_21 : decode cX11_count 21 = .ok (.ifCond .eq 13, 3) := by decide +kernel
theorem dX11_count_24 : decode cX11_count 24 = .ok (.aload_n 0, 1) := by decide +kernel
theorem dX11_count_25 : decode cX11_count 25 = .ok (.getfield 65, 3) := by decide +kernel
theorem dX11_count_28 : decode cX11_count 28 = .ok (.getfield 131, 3) := by decide +kernel
theorem dX11_count_31 : decode cX11_count 31 = .ok (.goto 8, 3) := by decide +kernel
theorem dX11_count_34 : decode cX11_count 34 = .ok (.aload_n 0, 1) := by decide +kernel
theorem dX11_count_35 : decode cX11_count 35 = .ok (.iconst 1, 1) := by decide +kernel
theorem dX11_count_36 : decode cX11_count 36 = .ok (.invokevirtual 111, 3) := by decide +kernel
theorem dX11_count_39 : decode cX11_count 39 = .ok (.ireturn, 1) := by decide +kernel
def f_X11_count (S : Hp) : Option (Int32 × Hp) :=
  ob2 (f_X1_readFrom S) (fun r1 S1 => le1 (ho_sI S1 10 1 (0 : Int32)) (fun S2 => if r1 = 0 then ob2 (f_X11_refuse (1 : Int32) S2) (fun r3 S3 => some (r3, S3)) else some ((S2.1 70 0), S2)))
set_option maxHeartbeats 4000000 in
set_option maxRecDepth 100000 in
theorem c_X11_count (l : Launch) (E : Ev) (S : Hp) (r : (Int32 × Hp)) (h : f_X11_count S = some r) : ho_M l yH E yX11_count cX11_count 2 (some .int) 2 [.ref (E.2.1 0)] S (some (.int r.1), r.2) := by
  refine ho_in (by decide) (Nat.le_of_ble_eq_true rfl) ?_
  intro p e s m args below meth c C hR ls hl
  have C : ho_I p s m args meth c RX11 cX11_count 2 (some .int) := C
  have hl : lv_has ls 2 [(0, .ref (E.2.1 0))] := hl
  unfold f_X11_count at h
  refine lv_aload_n C.1 C.2.1 dX11_count_0 rfl (lv_at hl 0 rfl) ?_
  refine ho_getR (a' := 70) C cf11 fH_RX11_65 hR aH_0 rfl dX11_count_1 ?_
  refine lv_aload_n C.1 C.2.1 dX11_count_4 rfl (lv_at hl 0 rfl) ?_
  refine ho_getR (a' := 10) C cf11 fH_RX11_10 hR aH_0 rfl dX11_count_5 ?_
  obtain ⟨r1, S1, h1, h⟩ := ob2_ok h
  refine hr_Vi (v := r1) (S' := S1) (As := [.ref (E.2.1 10)]) (rest := []) C cf1 (c_X1_readFrom l E _ _ h1) yv_X1_readFrom lk_RX11_279 rfl aH_70 rfl rfl hl.1 (Nat.le_of_ble_eq_true rfl) (by decide) (by decide) hR (ho_A hR) dX11_count_8 (fun H locs hR => ?_)
  refine lv_istore_n (lv' := [(1, .int r1), (0, .ref (E.2.1 0))]) C.1 C.2.1 dX11_count_11 rfl hl (by decide) rfl (fun ls hl => ?_)
  refine lv_aload_n C.1 C.2.1 dX11_count_12 rfl (lv_at hl 1 rfl) ?_
  refine ho_getR (a' := 10) C cf11 fH_RX11_10 hR aH_0 rfl dX11_count_13 ?_
  refine lv_iconst (v := (0 : Int32)) C.1 C.2.1 dX11_count_16 (by decide) ?_
  obtain ⟨S2, e2, h⟩ := le1_ok h
  refine hr_putI C cf10 fH_RX11_108 hR aH_10 e2 dX11_count_17 (fun H locs hR => ?_)
  refine lv_iload_n C.1 C.2.1 dX11_count_20 rfl (lv_at hl 0 rfl) ?_
  refine lv_if_eq (tgt := 34) C.1 C.2.1 dX11_count_21 (by decide) (fun hc => ?_) (fun hc => ?_)
  · replace h := if_t h hc
    refine lv_aload_n C.1 C.2.1 dX11_count_34 rfl (lv_at hl 1 rfl) ?_
    refine lv_iconst (v := (1 : Int32)) C.1 C.2.1 dX11_count_35 (by decide) ?_
    obtain ⟨r3, S3, h3, h⟩ := ob2_ok h
    refine hr_Vi (v := r3) (S' := S3) (As := [.int (1 : Int32)]) (rest := []) C cf11 (c_X11_refuse l E (1 : Int32) _ _ h3) yv_X11_refuse lk_RX11_111 rfl aH_0 rfl rfl hl.1 (Nat.le_of_ble_eq_true rfl) (by decide) (by decide) hR (ho_A hR) dX11_count_36 (fun H locs hR => ?_)
    exact ho_iret C hR h dX11_count_39
  · replace h := if_f h hc
    refine lv_aload_n C.1 C.2.1 dX11_count_24 rfl (lv_at hl 1 rfl) ?_
    refine ho_getR (a' := 70) C cf11 fH_RX11_65 hR aH_0 rfl dX11_count_25 ?_
    refine ho_getI C cf1 fH_RX11_131 hR aH_70 dX11_count_28 ?_
    refine lv_goto (tgt := 39) C.1 C.2.1 dX11_count_31 (by decide) ?_
    exact ho_iret C hR h dX11_count_39
theorem dX11_findCounted_0 : decode cX11_findCounted 0 = .ok (.aload_n 0, 1) := by decide +kernel
theorem dX11_findCounted_1 : decode cX11_findCounted 1 = .ok (.getfield 83, 3) := by decide +kernel
theorem dX11_findCounted_4 : decode cX11_findCounted 4 = .ok (.aload_n 0, 1) := by decide +kernel
theorem dX11_findCounted_5 : decode cX11_findCounted 5 = .ok (.getfield 79, 3) := by decide +kernel
theorem dX11_findCounted_8 : decode cX11_findCounted 8 = .ok (.invokevirtual 226, 3) := by decide +kernel
theorem dX11_findCounted_11 : decode cX11_findCounted 11 = .ok (.aload_n 0, 1) := by decide +kernel
theorem dX11_findCounted_12 : decode cX11_findCounted 12 = .ok (.getfield 49, 3) := by decide +kernel
theorem dX11_findCounted_15 : decode cX11_findCounted 15 = .ok (.aload_n 0, 1) := by decide +kernel
theorem dX11_findCounted_16 : decode cX11_findCounted 16 = .ok (.getfield 83, 3) := by decide +kernel
theorem dX11_findCounted_19 : decode cX11_findCounted 19 = .ok (.invokevirtual 230, 3) := by decide +kernel
theorem dX11_findCounted_22 : decode cX11_findCounted 22 = .ok (.aload_n 0, 1) := by decide +kernel
theorem dX11_findCounted_23 : decode cX11_findCounted 23 = .ok (.getfield 65, 3) := by decide +kernel
theorem dX11_findCounted_26 : decode cX11_findCounted 26 = .ok (.aload_n 0, 1) := by decide +kernel
theorem dX11_findCounted_27 : decode cX11_findCounted 27 = .ok (.getfield 83, 3) := by decide +kernel
theorem dX11_findCounted_30 : decode cX11_findCounted 30 = .ok (.invokevirtual 359, 3) := by decide +kernel
theorem dX11_findCounted_33 : decode cX11_findCounted 33 = .ok (.return_, 1) := by decide +kernel
def f_X11_findCounted (S : Hp) : Option Hp :=
  ob (f_X9_copy 1210 1200 S) (fun S1 => ob (f_X8_ripen 1210 S1) (fun S2 => ob (f_X1_find 1210 S2) (fun S3 => some S3)))
set_option maxHeartbeats 4000000 in
set_option maxRecDepth 100000 in
theorem c_X11_findCounted (l : Launch) (E : Ev) (S : Hp) (r : Hp) (h : f_X11_findCounted S = some r) : ho_M l yH E yX11_findCounted cX11_findCounted 1 none 3 [.ref (E.2.1 0)] S (none, r) := by
  refine ho_in (by decide) (Nat.le_of_ble_eq_true rfl) ?_
  intro p e s m args below meth c C hR ls hl
  have C : ho_I p s m args meth c RX11 cX11_findCounted 1 none := C
  have hl : lv_has ls 1 [(0, .ref (E.2.1 0))] := hl
  unfold f_X11_findCounted at h
  refine lv_aload_n C.1 C.2.1 dX11_findCounted_0 rfl (lv_at hl 0 rfl) ?_
  refine ho_getR (a' := 1210) C cf11 fH_RX11_83 hR aH_0 rfl dX11_findCounted_1 ?_
  refine lv_aload_n C.1 C.2.1 dX11_findCounted_4 rfl (lv_at hl 0 rfl) ?_
  refine ho_getR (a' := 1200) C cf11 fH_RX11_79 hR aH_0 rfl dX11_findCounted_5 ?_
  obtain ⟨S1, h1, h⟩ := ob_ok h
  refine hr_Vv (S' := S1) (As := [.ref (E.2.1 1200)]) (rest := []) C cf9 (c_X9_copy l E 1210 1200 aH_1210 aH_1200 _ _ h1) yv_X9_copy lk_RX11_226 rfl aH_1210 rfl rfl hl.1 (Nat.le_of_ble_eq_true rfl) (by decide) (by decide) hR (ho_A hR) dX11_findCounted_8 (fun H locs hR => ?_)
  refine lv_aload_n C.1 C.2.1 dX11_findCounted_11 rfl (lv_at hl 0 rfl) ?_
  refine ho_getR (a' := 50) C cf11 fH_RX11_49 hR aH_0 rfl dX11_findCounted_12 ?_
  refine lv_aload_n C.1 C.2.1 dX11_findCounted_15 rfl (lv_at hl 0 rfl) ?_
  refine ho_getR (a' := 1210) C cf11 fH_RX11_83 hR aH_0 rfl dX11_findCounted_16 ?_
  obtain ⟨S2, h2, h⟩ := ob_ok h
  refine hr_Vv (S' := S2) (As := [.ref (E.2.1 1210)]) (rest := []) C cf8 (c_X8_ripen l E 1210 aH_1210 _ _ h2) yv_X8_ripen lk_RX11_230 rfl aH_50 rfl rfl hl.1 (Nat.le_of_ble_eq_true rfl) (by decide) (by decide) hR (ho_A hR) dX11_findCounted_19 (fun H locs hR => ?_)
  refine lv_aload_n C.1 C.2.1 dX11_findCounted_22 rfl (lv_at hl 0 rfl) ?_
  refine ho_getR (a' := 70) C cf11 fH_RX11_65 hR aH_0 rfl dX11_findCounted_23 ?_
  refine lv_aload_n C.1 C.2.1 dX11_findCounted_26 rfl (lv_at hl 0 rfl) ?_
  refine ho_getR (a' := 1210) C cf11 fH_RX11_83 hR aH_0 rfl dX11_findCounted_27 ?_
  obtain ⟨S3, h3, h⟩ := ob_ok h
  refine hr_Vv (S' := S3) (As := [.ref (E.2.1 1210)]) (rest := []) C cf1 (c_X1_find l E 1210 aH_1210 _ _ h3) yv_X1_find lk_RX11_359 rfl aH_70 rfl rfl hl.1 (Nat.le_of_ble_eq_true rfl) (by decide) (by decide) hR (ho_A hR) dX11_findCounted_30 (fun H locs hR => ?_)
  exact ho_vret C hR h dX11_findCounted_33
theorem dX11_shows_0 : decode cX11_shows 0 = .ok (.aload_n 0, 1) := by decide +kernel
theorem dX11_shows_1 : decode cX11_shows 1 = .ok (.getfield 94, 3) := by decide +kernel
theorem dX11_shows_4 : decode cX11_shows 4 = .ok (.ifCond .eq 25, 3) := by decide +kernel
theorem dX11_shows_7 : decode cX11_shows 7 = .ok (.iload_n 1, 1) := by decide +kernel
theorem dX11_shows_8 : decode cX11_shows 8 = .ok (.ifCond .lt 21, 3) := by decide +kernel
theorem dX11_shows_11 : decode cX11_shows 11 = .ok (.iload_n 1, 1) := by decide +kernel
theorem dX11_shows_12 : decode cX11_shows 12 = .ok (.iconst 2, 1) := by decide +kernel
theorem dX11_shows_13 : decode cX11_shows 13 = .ok (.if_icmp .gt 16, 3) := by decide +kernel
theorem dX11_shows_16 : decode cX11_shows 16 = .ok (.aload_n 0, 1) := by decide +kernel
theorem dX11_shows_17 : decode cX11_shows 17 = .ok (.getfield 79, 3) := by decide +kernel
theorem dX11_shows_20 : decode cX11_shows 20 = .ok (.getfield 149, 3) := by decide +kernel
theorem dX11_shows_23 : decode cX11_shows 23 = .ok (.sipush 999, 3) := by decide +kernel
theorem dX11_shows_26 : decode cX11_shows 26 = .ok (.if_icmp .lt 5, 3) := by decide +kernel
theorem dX11_shows_29 : decode cX11_shows 29 = .ok (.iconst (-1), 1) := by decide +kernel
theorem dX11_shows_30 : decode cX11_shows 30 = .ok (.ireturn, 1) := by decide +kernel
theorem dX11_shows_31 : decode cX11_shows 31 = .ok (.aload_n 0, 1) := by decide +kernel
theorem dX11_shows_32 : decode cX11_shows 32 = .ok (.invokevirtual 283, 3) := by decide +kernel
theorem dX11_shows_35 : decode cX11_shows 35 = .ok (.iload_n 1, 1) := by decide +kernel
theorem dX11_shows_36 : decode cX11_shows 36 = .ok (.lookupswitch 44 #[(0, 28), (1, 36)], 28) := by decide +kernel
theorem dX11_shows_64 : decode cX11_shows 64 = .ok (.aload_n 0, 1) := by decide +kernel
theorem dX11_shows_65 : decode cX11_shows 65 = .ok (.getfield 65, 3) := by decide +kernel
theorem dX11_shows_68 : decode cX11_shows 68 = .ok (.getfield 286, 3) := by decide +kernel
theorem dX11_shows_71 : decode cX11_shows 71 = .ok (.ireturn, 1) := by decide +kernel
theorem dX11_shows_72 : decode cX11_shows 72 = .ok (.aload_n 0, 1) := by decide +kernel
theorem dX11_shows_73 : decode cX11_shows 73 = .ok (.getfield 65, 3) := by decide +kernel
theorem dX11_shows_76 : decode cX11_shows 76 = .ok (.invokevirtual 289, 3) := by decide +kernel
theorem dX11_shows_79 : decode cX11_shows 79 = .ok (.ireturn, 1) := by decide +kernel
theorem dX11_shows_80 : decode cX11_shows 80 = .ok (.aload_n 0, 1) := by decide +kernel
theorem dX11_shows_81 : decode cX11_shows 81 = .ok (.getfield 65, 3) := by decide +kernel
theorem dX11_shows_84 : decode cX11_shows 84 = .ok (.invokevirtual 292, 3) := by decide +kernel
theorem dX11_shows_87 : decode cX11_shows 87 = .ok (.ireturn, 1) := by decide +kernel
def f_X11_shows (x1 : Int32) (S : Hp) : Option (Int32 × Hp) :=
  if (S.1 0 13) = 0 then some ((-1 : Int32), S) else if x1 < 0 then some ((-1 : Int32), S) else if (2 : Int32) < x1 then some ((-1 : Int32), S) else if (S.1 1200 0) < (999 : Int32) then ob (f_X11_findCounted S) (fun S1 => if x1 = (0 : Int32) then some ((S1.1 70 1), S1) else if x1 = (1 : Int32) then ob2 (f_X1_inAll S1) (fun r2 S2 => some (r2, S2)) else ob2 (f_X1_inSome S1) (fun r3 S3 => some (r3, S3))) else some ((-1 : Int32), S)
set_option maxHeartbeats 4000000 in
set_option maxRecDepth 100000 in
theorem c_X11_shows (l : Launch) (E : Ev) (x1 : Int32) (S : Hp) (r : (Int32 × Hp)) (h : f_X11_shows x1 S = some r) : ho_M l yH E yX11_shows cX11_shows 2 (some .int) 4 [.ref (E.2.1 0), .int x1] S (some (.int r.1), r.2) := by
  refine ho_in (by decide) (Nat.le_of_ble_eq_true rfl) ?_
  intro p e s m args below meth c C hR ls hl
  have C : ho_I p s m args meth c RX11 cX11_shows 2 (some .int) := C
  have hl : lv_has ls 2 [(0, .ref (E.2.1 0)), (1, .int x1)] := hl
  unfold f_X11_shows at h
  refine lv_aload_n C.1 C.2.1 dX11_shows_0 rfl (lv_at hl 0 rfl) ?_
  refine ho_getI C cf11 fH_RX11_94 hR aH_0 dX11_shows_1 ?_
  refine lv_if_eq (tgt := 29) C.1 C.2.1 dX11_shows_4 (by decide) (fun hc => ?_) (fun hc => ?_)
  · replace h := if_t h hc
    refine lv_iconst (v := (-1 : Int32)) C.1 C.2.1 dX11_shows_29 (by decide) ?_
    exact ho_iret C hR h dX11_shows_30
  · replace h := if_f h hc
    refine lv_iload_n C.1 C.2.1 dX11_shows_7 rfl (lv_at hl 1 rfl) ?_
    refine lv_if_lt (tgt := 29) C.1 C.2.1 dX11_shows_8 (by decide) (fun hc => ?_) (fun hc => ?_)
    · replace h := if_t h hc
      refine lv_iconst (v := (-1 : Int32)) C.1 C.2.1 dX11_shows_29 (by decide) ?_
      exact ho_iret C hR h dX11_shows_30
    · replace h := if_f h hc
      refine lv_iload_n C.1 C.2.1 dX11_shows_11 rfl (lv_at hl 1 rfl) ?_
      refine lv_iconst (v := (2 : Int32)) C.1 C.2.1 dX11_shows_12 (by decide) ?_
      refine lv_icmp_gt (tgt := 29) C.1 C.2.1 dX11_shows_13 (by decide) (fun hc => ?_) (fun hc => ?_)
      · replace h := if_t h hc
        refine lv_iconst (v := (-1 : Int32)) C.1 C.2.1 dX11_shows_29 (by decide) ?_
        exact ho_iret C hR h dX11_shows_30
      · replace h := if_f h hc
        refine lv_aload_n C.1 C.2.1 dX11_shows_16 rfl (lv_at hl 0 rfl) ?_
        refine ho_getR (a' := 1200) C cf11 fH_RX11_79 hR aH_0 rfl dX11_shows_17 ?_
        refine ho_getI C cf9 fH_RX11_149 hR aH_1200 dX11_shows_20 ?_
        refine lv_sipush (v := (999 : Int32)) C.1 C.2.1 dX11_shows_23 (by decide) ?_
        refine lv_icmp_lt (tgt := 31) C.1 C.2.1 dX11_shows_26 (by decide) (fun hc => ?_) (fun hc => ?_)
        · replace h := if_t h hc
          refine lv_aload_n C.1 C.2.1 dX11_shows_31 rfl (lv_at hl 0 rfl) ?_
          obtain ⟨S1, h1, h⟩ := ob_ok h
          refine hr_Vv (S' := S1) (As := []) (rest := []) C cf11 (c_X11_findCounted l E _ _ h1) yv_X11_findCounted lk_RX11_283 rfl aH_0 rfl rfl hl.1 (Nat.le_of_ble_eq_true rfl) (by decide) (by decide) hR (ho_A hR) dX11_shows_32 (fun H locs hR => ?_)
          refine lv_iload_n C.1 C.2.1 dX11_shows_35 rfl (lv_at hl 1 rfl) ?_
          by_cases hc0 : x1 = (0 : Int32)
          · replace h := if_t h hc0
            have hx : (x1).toInt = 0 := by rw [hc0]; decide
            refine lv_lookup (off := 28) (tgt := 64) C.1 C.2.1 dX11_shows_36 (by decide) (by rw [hx]; decide) (by decide) ?_
            refine lv_aload_n C.1 C.2.1 dX11_shows_64 rfl (lv_at hl 0 rfl) ?_
            refine ho_getR (a' := 70) C cf11 fH_RX11_65 hR aH_0 rfl dX11_shows_65 ?_
            refine ho_getI C cf1 fH_RX11_286 hR aH_70 dX11_shows_68 ?_
            exact ho_iret C hR h dX11_shows_71
          · replace h := if_f h hc0
            by_cases hc1 : x1 = (1 : Int32)
            · replace h := if_t h hc1
              have hx : (x1).toInt = 1 := by rw [hc1]; decide
              refine lv_lookup (off := 36) (tgt := 72) C.1 C.2.1 dX11_shows_36 (by decide) (by rw [hx]; decide) (by decide) ?_
              refine lv_aload_n C.1 C.2.1 dX11_shows_72 rfl (lv_at hl 0 rfl) ?_
              refine ho_getR (a' := 70) C cf11 fH_RX11_65 hR aH_0 rfl dX11_shows_73 ?_
              obtain ⟨r2, S2, h2, h⟩ := ob2_ok h
              refine hr_Vi (v := r2) (S' := S2) (As := []) (rest := []) C cf1 (c_X1_inAll l E _ _ h2) yv_X1_inAll lk_RX11_289 rfl aH_70 rfl rfl hl.1 (Nat.le_of_ble_eq_true rfl) (by decide) (by decide) hR (ho_A hR) dX11_shows_76 (fun H locs hR => ?_)
              exact ho_iret C hR h dX11_shows_79
            · replace h := if_f h hc1
              refine lv_lookup (off := 44) (tgt := 80) C.1 C.2.1 dX11_shows_36 (by decide) (by show Op.lookupswitch.offset [(0, 28), (1, 36)] _ _ = _; rw [lv_osw hc0 (by decide), lv_osw hc1 (by decide)]; rfl) (by decide) ?_
              refine lv_aload_n C.1 C.2.1 dX11_shows_80 rfl (lv_at hl 0 rfl) ?_
              refine ho_getR (a' := 70) C cf11 fH_RX11_65 hR aH_0 rfl dX11_shows_81 ?_
              obtain ⟨r3, S3, h3, h⟩ := ob2_ok h
              refine hr_Vi (v := r3) (S' := S3) (As := []) (rest := []) C cf1 (c_X1_inSome l E _ _ h3) yv_X1_inSome lk_RX11_292 rfl aH_70 rfl rfl hl.1 (Nat.le_of_ble_eq_true rfl) (by decide) (by decide) hR (ho_A hR) dX11_shows_84 (fun H locs hR => ?_)
              exact ho_iret C hR h dX11_shows_87
        · replace h := if_f h hc
          refine lv_iconst (v := (-1 : Int32)) C.1 C.2.1 dX11_shows_29 (by decide) ?_
          exact ho_iret C hR h dX11_shows_30
theorem dX11_where_0 : decode cX11_where 0 = .ok (.aload_n 0, 1) := by decide +kernel
theorem dX11_where_1 : decode cX11_where 1 = .ok (.getfield 94, 3) := by decide +kernel
theorem dX11_where_4 : decode cX11_where 4 = .ok (.ifCond .eq 25, 3) := by decide +kernel
theorem dX11_where_7 : decode cX11_where 7 = .ok (.iload_n 1, 1) := by decide +kernel
theorem dX11_where_8 : decode cX11_where 8 = .ok (.ifCond .lt 21, 3) := by decide +kernel
theorem dX11_where_11 : decode cX11_where 11 = .ok (.iload_n 1, 1) := by decide +kernel
theorem dX11_where_12 : decode cX11_where 12 = .ok (.iconst 1, 1) := by decide +kernel
theorem dX11_where_13 : decode cX11_where 13 = .ok (.if_icmp .gt 16, 3) := by decide +kernel
theorem dX11_where_16 : decode cX11_where 16 = .ok (.aload_n 0, 1) := by decide +kernel
theorem dX11_where_17 : decode cX11_where 17 = .ok (.getfield 79, 3) := by decide +kernel
theorem dX11_where_20 : decode cX11_where 20 = .ok (.getfield 149, 3) := by decide +kernel
theorem dX11_where_23 : decode cX11_where 23 = .ok (.sipush 999, 3) := by decide +kernel
theorem dX11_where_26 : decode cX11_where 26 = .ok (.if_icmp .lt 5, 3) := by decide +kernel
theorem dX11_where_29 : decode cX11_where 29 = .ok (.iconst (-1), 1) := by decide +kernel
theorem dX11_where_30 : decode cX11_where 30 = .ok (.ireturn, 1) := by decide +kernel
theorem dX11_where_31 : decode cX11_where 31 = .ok (.aload_n 0, 1) := by decide +kernel
theorem dX11_where_32 : decode cX11_where 32 = .ok (.invokevirtual 283, 3) := by decide +kernel
theorem dX11_where_35 : decode cX11_where 35 = .ok (.aload_n 0, 1) := by decide +kernel
theorem dX11_where_36 : decode cX11_where 36 = .ok (.getfield 65, 3) := by decide +kernel
theorem dX11_where_39 : decode cX11_where 39 = .ok (.getfield 286, 3) := by decide +kernel
theorem dX11_where_42 : decode cX11_where 42 = .ok (.ifCond .eq 15, 3) := by decide +kernel
theorem dX11_where_45 : decode cX11_where 45 = .ok (.aload_n 0, 1) := by decide +kernel
theorem dX11_where_46 : decode cX11_where 46 = .ok (.getfield 19, 3) := by decide +kernel
theorem dX11_where_49 : decode cX11_where 49 = .ok (.getfield 146, 3) := by decide +kernel
theorem dX11_where_52 : decode cX11_where 52 = .ok (.iconst 0, 1) := by decide +kernel
theorem dX11_where_53 : decode cX11_where 53 = .ok (.iaload, 1) := by decide +kernel
theorem dX11_where_54 : decode cX11_where 54 = .ok (.ifCond .ne 5, 3) := by decide +kernel
theorem dX11_where_57 : decode cX11_where 57 = .ok (.iconst (-1), 1) := by decide +kernel
theorem dX11_where_58 : decode cX11_where 58 = .ok (.ireturn, 1) := by decide +kernel
theorem dX11_where_59 : decode cX11_where 59 = .ok (.aload_n 0, 1) := by decide +kernel
theorem dX11_where_60 : decode cX11_where 60 = .ok (.getfield 65, 3) := by decide +kernel
theorem dX11_where_63 : decode cX11_where 63 = .ok (.invokevirtual 295, 3) := by decide +kernel
theorem dX11_where_66 : decode cX11_where 66 = .ok (.iload_n 1, 1) := by decide +kernel
theorem dX11_where_67 : decode cX11_where 67 = .ok (.ifCond .ne 13, 3) := by decide +kernel
theorem dX11_where_70 : decode cX11_where 70 = .ok (.aload_n 0, 1) := by decide +kernel
theorem dX11_where_71 : decode cX11_where 71 = .ok (.getfield 65, 3) := by decide +kernel
theorem dX11_where_74 : decode cX11_where 74 = .ok (.getfield 297, 3) := by decide +kernel
theorem dX11_where_77 : decode cX11_where 77 = .ok (.goto 10, 3) := by decide +kernel
theorem dX11_where_80 : decode cX11_where 80 = .ok (.aload_n 0, 1) := by decide +kernel
theorem dX11_where_81 : decode cX11_where 81 = .ok (.getfield 65, 3) := by decide +kernel
theorem dX11_where_84 : decode cX11_where 84 = .ok (.getfield 298, 3) := by decide +kernel
theorem dX11_where_87 : decode cX11_where 87 = .ok (.ireturn, 1) := by decide +kernel
def f_X11_where (x1 : Int32) (S : Hp) : Option (Int32 × Hp) :=
  if (S.1 0 13) = 0 then some ((-1 : Int32), S) else if x1 < 0 then some ((-1 : Int32), S) else if (1 : Int32) < x1 then some ((-1 : Int32), S) else if (S.1 1200 0) < (999 : Int32) then ob (f_X11_findCounted S) (fun S1 => if (S1.1 70 1) = 0 then some ((-1 : Int32), S1) else ldP yH S1 0 1 2 (fun p2 => ldI S1 (p2 + 1) 3 (0 : Int32) (fun v3 => if v3 = 0 then some ((-1 : Int32), S1) else ob (f_X1_choose S1) (fun S4 => if x1 = 0 then some ((S4.1 70 2), S4) else some ((S4.1 70 3), S4))))) else some ((-1 : Int32), S)
set_option maxHeartbeats 4000000 in
set_option maxRecDepth 100000 in
theorem c_X11_where (l : Launch) (E : Ev) (x1 : Int32) (S : Hp) (r : (Int32 × Hp)) (h : f_X11_where x1 S = some r) : ho_M l yH E yX11_where cX11_where 2 (some .int) 4 [.ref (E.2.1 0), .int x1] S (some (.int r.1), r.2) := by
  refine ho_in (by decide) (Nat.le_of_ble_eq_true rfl) ?_
  intro p e s m args below meth c C hR ls hl
  have C : ho_I p s m args meth c RX11 cX11_where 2 (some .int) := C
  have hl : lv_has ls 2 [(0, .ref (E.2.1 0)), (1, .int x1)] := hl
  unfold f_X11_where at h
  refine lv_aload_n C.1 C.2.1 dX11_where_0 rfl (lv_at hl 0 rfl) ?_
  refine ho_getI C cf11 fH_RX11_94 hR aH_0 dX11_where_1 ?_
  refine lv_if_eq (tgt := 29) C.1 C.2.1 dX11_where_4 (by decide) (fun hc => ?_) (fun hc => ?_)
  · replace h := if_t h hc
    refine lv_iconst (v := (-1 : Int32)) C.1 C.2.1 dX11_where_29 (by decide) ?_
    exact ho_iret C hR h dX11_where_30
  · replace h := if_f h hc
    refine lv_iload_n C.1 C.2.1 dX11_where_7 rfl (lv_at hl 1 rfl) ?_
    refine lv_if_lt (tgt := 29) C.1 C.2.1 dX11_where_8 (by decide) (fun hc => ?_) (fun hc => ?_)
    · replace h := if_t h hc
      refine lv_iconst (v := (-1 : Int32)) C.1 C.2.1 dX11_where_29 (by decide) ?_
      exact ho_iret C hR h dX11_where_30
    · replace h := if_f h hc
      refine lv_iload_n C.1 C.2.1 dX11_where_11 rfl (lv_at hl 1 rfl) ?_
      refine lv_iconst (v := (1 : Int32)) C.1 C.2.1 dX11_where_12 (by decide) ?_
      refine lv_icmp_gt (tgt := 29) C.1 C.2.1 dX11_where_13 (by decide) (fun hc => ?_) (fun hc => ?_)
      · replace h := if_t h hc
        refine lv_iconst (v := (-1 : Int32)) C.1 C.2.1 dX11_where_29 (by decide) ?_
        exact ho_iret C hR h dX11_where_30
      · replace h := if_f h hc
        refine lv_aload_n C.1 C.2.1 dX11_where_16 rfl (lv_at hl 0 rfl) ?_
        refine ho_getR (a' := 1200) C cf11 fH_RX11_79 hR aH_0 rfl dX11_where_17 ?_
        refine ho_getI C cf9 fH_RX11_149 hR aH_1200 dX11_where_20 ?_
        refine lv_sipush (v := (999 : Int32)) C.1 C.2.1 dX11_where_23 (by decide) ?_
        refine lv_icmp_lt (tgt := 31) C.1 C.2.1 dX11_where_26 (by decide) (fun hc => ?_) (fun hc => ?_)
        · replace h := if_t h hc
          refine lv_aload_n C.1 C.2.1 dX11_where_31 rfl (lv_at hl 0 rfl) ?_
          obtain ⟨S1, h1, h⟩ := ob_ok h
          refine hr_Vv (S' := S1) (As := []) (rest := []) C cf11 (c_X11_findCounted l E _ _ h1) yv_X11_findCounted lk_RX11_283 rfl aH_0 rfl rfl hl.1 (Nat.le_of_ble_eq_true rfl) (by decide) (by decide) hR (ho_A hR) dX11_where_32 (fun H locs hR => ?_)
          refine lv_aload_n C.1 C.2.1 dX11_where_35 rfl (lv_at hl 0 rfl) ?_
          refine ho_getR (a' := 70) C cf11 fH_RX11_65 hR aH_0 rfl dX11_where_36 ?_
          refine ho_getI C cf1 fH_RX11_286 hR aH_70 dX11_where_39 ?_
          refine lv_if_eq (tgt := 57) C.1 C.2.1 dX11_where_42 (by decide) (fun hc => ?_) (fun hc => ?_)
          · replace h := if_t h hc
            refine lv_iconst (v := (-1 : Int32)) C.1 C.2.1 dX11_where_57 (by decide) ?_
            exact ho_iret C hR h dX11_where_58
          · replace h := if_f h hc
            refine lv_aload_n C.1 C.2.1 dX11_where_45 rfl (lv_at hl 0 rfl) ?_
            obtain ⟨p2, e2, hp2, h⟩ := ldP_ok h
            refine hr_getP C cf11 fH_RX11_19 hR aH_0 e2 dX11_where_46 ?_
            refine ho_getR (a' := (p2 + 1)) C cf2 fH_RX11_146 hR hp2 (pH_2_5 hp2.2) dX11_where_49 ?_
            refine lv_iconst (v := (0 : Int32)) C.1 C.2.1 dX11_where_52 (by decide) ?_
            obtain ⟨v3, e3, hi3, h⟩ := ldI_ok h
            refine hr_ild C hR (rH_2_1 hp2) hi3 e3 dX11_where_53 ?_
            refine lv_if_ne (tgt := 59) C.1 C.2.1 dX11_where_54 (by decide) (fun hc => ?_) (fun hc => ?_)
            · replace h := if_f h hc
              refine lv_aload_n C.1 C.2.1 dX11_where_59 rfl (lv_at hl 0 rfl) ?_
              refine ho_getR (a' := 70) C cf11 fH_RX11_65 hR aH_0 rfl dX11_where_60 ?_
              obtain ⟨S4, h4, h⟩ := ob_ok h
              refine hr_Vv (S' := S4) (As := []) (rest := []) C cf1 (c_X1_choose l E _ _ h4) yv_X1_choose lk_RX11_295 rfl aH_70 rfl rfl hl.1 (Nat.le_of_ble_eq_true rfl) (by decide) (by decide) hR (ho_A hR) dX11_where_63 (fun H locs hR => ?_)
              refine lv_iload_n C.1 C.2.1 dX11_where_66 rfl (lv_at hl 1 rfl) ?_
              refine lv_if_ne (tgt := 80) C.1 C.2.1 dX11_where_67 (by decide) (fun hc => ?_) (fun hc => ?_)
              · replace h := if_f h hc
                refine lv_aload_n C.1 C.2.1 dX11_where_80 rfl (lv_at hl 0 rfl) ?_
                refine ho_getR (a' := 70) C cf11 fH_RX11_65 hR aH_0 rfl dX11_where_81 ?_
                refine ho_getI C cf1 fH_RX11_298 hR aH_70 dX11_where_84 ?_
                exact ho_iret C hR h dX11_where_87
              · replace h := if_t h hc
                refine lv_aload_n C.1 C.2.1 dX11_where_70 rfl (lv_at hl 0 rfl) ?_
                refine ho_getR (a' := 70) C cf11 fH_RX11_65 hR aH_0 rfl dX11_where_71 ?_
                refine ho_getI C cf1 fH_RX11_297 hR aH_70 dX11_where_74 ?_
                refine lv_goto (tgt := 87) C.1 C.2.1 dX11_where_77 (by decide) ?_
                exact ho_iret C hR h dX11_where_87
            · replace h := if_t h hc
              refine lv_iconst (v := (-1 : Int32)) C.1 C.2.1 dX11_where_57 (by decide) ?_
              exact ho_iret C hR h dX11_where_58
        · replace h := if_f h hc
          refine lv_iconst (v := (-1 : Int32)) C.1 C.2.1 dX11_where_29 (by decide) ?_
          exact ho_iret C hR h dX11_where_30
theorem dX11_watch_0 : decode cX11_watch 0 = .ok (.aload_n 0, 1) := by decide +kernel
theorem dX11_watch_1 : decode cX11_watch 1 = .ok (.getfield 94, 3) := by decide +kernel
theorem dX11_watch_4 : decode cX11_watch 4 = .ok (.ifCond .eq 13, 3) := by decide +kernel
theorem dX11_watch_7 : decode cX11_watch 7 = .ok (.iload_n 1, 1) := by decide +kernel
theorem dX11_watch_8 : decode cX11_watch 8 = .ok (.ifCond .lt 9, 3) := by decide +kernel
theorem dX11_watch_11 : decode cX11_watch 11 = .ok (.iload_n 1, 1) := by decide +kernel
theorem dX11_watch_12 : decode cX11_watch 12 = .ok (.bipush 99, 2) := by decide +kernel
theorem dX11_watch_14 : decode cX11_watch 14 = .ok (.if_icmp .le 5, 3) := by decide +kernel
theorem dX11_watch_17 : decode cX11_watch 17 = .ok (.iconst (-1), 1) := by decide +kernel
theorem dX11_watch_18 : decode cX11_watch 18 = .ok (.ireturn, 1) := by decide +kernel
theorem dX11_watch_19 : decode cX11_watch 19 = .ok (.aload_n 0, 1) := by decide +kernel
theorem dX11_watch_20 : decode cX11_watch 20 = .ok (.getfield 49, 3) := by decide +kernel
theorem dX11_watch_23 : decode cX11_watch 23 = .ok (.aload_n 0, 1) := by decide +kernel
theorem dX11_watch_24 : decode cX11_watch 24 = .ok (.getfield 79, 3) := by decide +kernel
theorem dX11_watch_27 : decode cX11_watch 27 = .ok (.iload_n 1, 1) := by decide +kernel
theorem dX11_watch_28 : decode cX11_watch 28 = .ok (.invokevirtual 301, 3) := by decide +kernel
theorem dX11_watch_31 : decode cX11_watch 31 = .ok (.ireturn, 1) := by decide +kernel
def f_X11_watch (x1 : Int32) (S : Hp) : Option (Int32 × Hp) :=
  if (S.1 0 13) = 0 then some ((-1 : Int32), S) else if x1 < 0 then some ((-1 : Int32), S) else if x1 ≤ (99 : Int32) then ob2 (f_X8_fewestWatchers 1200 x1 S) (fun r1 S1 => some (r1, S1)) else some ((-1 : Int32), S)
set_option maxHeartbeats 4000000 in
set_option maxRecDepth 100000 in
theorem c_X11_watch (l : Launch) (E : Ev) (x1 : Int32) (S : Hp) (r : (Int32 × Hp)) (h : f_X11_watch x1 S = some r) : ho_M l yH E yX11_watch cX11_watch 2 (some .int) 5 [.ref (E.2.1 0), .int x1] S (some (.int r.1), r.2) := by
  refine ho_in (by decide) (Nat.le_of_ble_eq_true rfl) ?_
  intro p e s m args below meth c C hR ls hl
  have C : ho_I p s m args meth c RX11 cX11_watch 2 (some .int) := C
  have hl : lv_has ls 2 [(0, .ref (E.2.1 0)), (1, .int x1)] := hl
  unfold f_X11_watch at h
  refine lv_aload_n C.1 C.2.1 dX11_watch_0 rfl (lv_at hl 0 rfl) ?_
  refine ho_getI C cf11 fH_RX11_94 hR aH_0 dX11_watch_1 ?_
  refine lv_if_eq (tgt := 17) C.1 C.2.1 dX11_watch_4 (by decide) (fun hc => ?_) (fun hc => ?_)
  · replace h := if_t h hc
    refine lv_iconst (v := (-1 : Int32)) C.1 C.2.1 dX11_watch_17 (by decide) ?_
    exact ho_iret C hR h dX11_watch_18
  · replace h := if_f h hc
    refine lv_iload_n C.1 C.2.1 dX11_watch_7 rfl (lv_at hl 1 rfl) ?_
    refine lv_if_lt (tgt := 17) C.1 C.2.1 dX11_watch_8 (by decide) (fun hc => ?_) (fun hc => ?_)
    · replace h := if_t h hc
      refine lv_iconst (v := (-1 : Int32)) C.1 C.2.1 dX11_watch_17 (by decide) ?_
      exact ho_iret C hR h dX11_watch_18
    · replace h := if_f h hc
      refine lv_iload_n C.1 C.2.1 dX11_watch_11 rfl (lv_at hl 1 rfl) ?_
      refine lv_bipush (v := (99 : Int32)) C.1 C.2.1 dX11_watch_12 (by decide) ?_
      refine lv_icmp_le (tgt := 19) C.1 C.2.1 dX11_watch_14 (by decide) (fun hc => ?_) (fun hc => ?_)
      · replace h := if_t h hc
        refine lv_aload_n C.1 C.2.1 dX11_watch_19 rfl (lv_at hl 0 rfl) ?_
        refine ho_getR (a' := 50) C cf11 fH_RX11_49 hR aH_0 rfl dX11_watch_20 ?_
        refine lv_aload_n C.1 C.2.1 dX11_watch_23 rfl (lv_at hl 0 rfl) ?_
        refine ho_getR (a' := 1200) C cf11 fH_RX11_79 hR aH_0 rfl dX11_watch_24 ?_
        refine lv_iload_n C.1 C.2.1 dX11_watch_27 rfl (lv_at hl 1 rfl) ?_
        obtain ⟨r1, S1, h1, h⟩ := ob2_ok h
        refine hr_Vi (v := r1) (S' := S1) (As := [.ref (E.2.1 1200), .int x1]) (rest := []) C cf8 (c_X8_fewestWatchers l E 1200 x1 aH_1200 _ _ h1) yv_X8_fewestWatchers lk_RX11_301 rfl aH_50 rfl rfl hl.1 (Nat.le_of_ble_eq_true rfl) (by decide) (by decide) hR (ho_A hR) dX11_watch_28 (fun H locs hR => ?_)
        exact ho_iret C hR h dX11_watch_31
      · replace h := if_f h hc
        refine lv_iconst (v := (-1 : Int32)) C.1 C.2.1 dX11_watch_17 (by decide) ?_
        exact ho_iret C hR h dX11_watch_18
theorem dX11_seat_0 : decode cX11_seat 0 = .ok (.aload_n 0, 1) := by decide +kernel
theorem dX11_seat_1 : decode cX11_seat 1 = .ok (.getfield 19, 3) := by decide +kernel
theorem dX11_seat_4 : decode cX11_seat 4 = .ok (.iconst 2, 1) := by decide +kernel
theorem dX11_seat_5 : decode cX11_seat 5 = .ok (.iload_n 1, 1) := by decide +kernel
theorem dX11_seat_6 : decode cX11_seat 6 = .ok (.invokevirtual 173, 3) := by decide +kernel
theorem dX11_seat_9 : decode cX11_seat 9 = .ok (.ifCond .ne 5, 3) := by decide +kernel
theorem dX11_seat_12 : decode cX11_seat 12 = .ok (.iconst (-1), 1) := by decide +kernel
theorem dX11_seat_13 : decode cX11_seat 13 = .ok (.ireturn, 1) := by decide +kernel
theorem dX11_seat_14 : decode cX11_seat 14 = .ok (.iconst 0, 1) := by decide +kernel
theorem dX11_seat_15 : decode cX11_seat 15 = .ok (.istore_n 2, 1) := by decide +kernel
theorem dX11_seat_16 : decode cX11_seat 16 = .ok (.iconst (-1), 1) := by decide +kernel
theorem dX11_seat_17 : decode cX11_seat 17 = .ok (.istore_n 3, 1) := by decide +kernel
theorem dX11_seat_18 : decode cX11_seat 18 = .ok (.iconst 0, 1) := by decide +kernel
theorem dX11_seat_19 : decode cX11_seat 19 = .ok (.istore 4, 2) := by decide +kernel
theorem dX11_seat_21 : decode cX11_seat 21 = .ok (.iload 4, 2) := by decide +kernel
theorem dX11_seat_23 : decode cX11_seat 23 = .ok (.bipush 10, 2) := by decide +kernel
theorem dX11_seat_25 : decode cX11_seat 25 = .ok (.if_icmp .ge 37, 3) := by decide +kernel
theorem dX11_seat_28 : decode cX11_seat 28 = .ok (.aload_n 0, 1) := by decide +kernel
theorem dX11_seat_29 : decode cX11_seat 29 = .ok (.getfield 49, 3) := by decide +kernel
theorem dX11_seat_32 : decode cX11_seat 32 = .ok (.aload_n 0, 1) := by decide +kernel
theorem dX11_seat_33 : decode cX11_seat 33 = .ok (.getfield 79, 3) := by decide +kernel
theorem dX11_seat_36 : decode cX11_seat 36 = .ok (.iload_n 1, 1) := by decide +kernel
theorem dX11_seat_37 : decode cX11_seat 37 = .ok (.iload 4, 2) := by decide +kernel
theorem dX11_seat_39 : decode cX11_seat 39 = .ok (.invokevirtual 215, 3) := by decide +kernel
theorem dX11_seat_42 : decode cX11_seat 42 = .ok (.istore 5, 2) := by decide +kernel
theorem dX11_seat_44 : decode cX11_seat 44 = .ok (.iload 5, 2) := by decide +kernel
theorem dX11_seat_46 : decode cX11_seat 46 = .ok (.iload_n 3, 1) := by decide +kernel
theorem dX11_seat_47 : decode cX11_seat 47 = .ok (.if_icmp .le 9, 3) := by decide +kernel
theorem dX11_seat_50 : decode cX11_seat 50 = .ok (.iload 5, 2) := by decide +kernel
theorem dX11_seat_52 : decode cX11_seat 52 = .ok (.istore_n 3, 1) := by decide +kernel
theorem dX11_seat_53 : decode cX11_seat 53 = .ok (.iload 4, 2) := by decide +kernel
theorem dX11_seat_55 : decode cX11_seat 55 = .ok (.istore_n 2, 1) := by decide +kernel
theorem dX11_seat_56 : decode cX11_seat 56 = .ok (.iinc 4 1, 3) := by decide +kernel
theorem dX11_seat_59 : decode cX11_seat 59 = .ok (.goto (-38), 3) := by decide +kernel
theorem dX11_seat_62 : decode cX11_seat 62 = .ok (.iload_n 2, 1) := by decide +kernel
theorem dX11_seat_63 : decode cX11_seat 63 = .ok (.ireturn, 1) := by decide +kernel
def f_X11_seat_56 (K21 : Int32 → Int32 → Int32 → Int32 → Hp → Option (Int32 × Hp)) (x1 : Int32) (x2 : Int32) (x3 : Int32) (x4 : Int32) (S : Hp) : Option (Int32 × Hp) :=
  le1 (x4 + (1 : Int32)) (fun v1 => K21 x1 x2 x3 v1 S)
set_option maxHeartbeats 4000000 in
set_option maxRecDepth 100000 in
theorem w_X11_seat_56 {p : Program} {l : Launch} {e : Env} {s : State} {m : MethodId} {args : Array Value} {below : List Frame} {meth : Method} {c : Code} {E : Ev} {S0 : Hp} {r : (Int32 × Hp)} (C : ho_I p s m args meth c RX11 cX11_seat 6 (some .int)) (K21 : Int32 → Int32 → Int32 → Int32 → Hp → Option (Int32 × Hp)) (hK21 : ∀ (y1 : Int32) (y2 : Int32) (y3 : Int32) (y4 : Int32) (S : Hp), K21 y1 y2 y3 y4 S = some r → ho_G p l e s m args below meth c yH E S0 5 6 (some (.int r.1), r.2) 21 [(0, .ref (E.2.1 0)), (1, .int y1), (2, .int y2), (3, .int y3), (4, .int y4)] [] S) :
    ∀ (x1 : Int32) (x2 : Int32) (x3 : Int32) (x4 : Int32) (S : Hp), f_X11_seat_56 K21 x1 x2 x3 x4 S = some r → ho_G p l e s m args below meth c yH E S0 5 6 (some (.int r.1), r.2) 56 [(0, .ref (E.2.1 0)), (1, .int x1), (2, .int x2), (3, .int x3), (4, .int x4)] [] S := by
  intro x1 x2 x3 x4 S h H locs ls hR hl
  unfold f_X11_seat_56 at h
  obtain ⟨v1, e1, h⟩ := le1_ok h
  refine lv_iinc (v := v1) (lv' := [(4, .int v1), (0, .ref (E.2.1 0)), (1, .int x1), (2, .int x2), (3, .int x3)]) C.1 C.2.1 dX11_seat_56 hl (k := 4) rfl (by rw [e1]; rfl) (by decide) rfl (fun ls hl => ?_)
  refine lv_goto (tgt := 21) C.1 C.2.1 dX11_seat_59 (by decide) ?_
  exact hK21 x1 x2 x3 v1 S h _ _ _ hR (lv_sub hl [1, 2, 3, 4, 0] rfl)
def f_X11_seat_21 : Nat → Int32 → Int32 → Int32 → Int32 → Hp → Option (Int32 × Hp)
  | 0, _, _, _, _, _ => none
  | k + 1, x1, x2, x3, x4, S => if (10 : Int32) ≤ x4 then some (x2, S) else ob2 (f_X8_sightFrom 1200 x1 x4 S) (fun r1 S1 => if r1 ≤ x3 then f_X11_seat_56 (f_X11_seat_21 k) x1 x2 x3 x4 S1 else f_X11_seat_56 (f_X11_seat_21 k) x1 x4 r1 x4 S1)
set_option maxHeartbeats 4000000 in
set_option maxRecDepth 100000 in
theorem w_X11_seat_21 {p : Program} {l : Launch} {e : Env} {s : State} {m : MethodId} {args : Array Value} {below : List Frame} {meth : Method} {c : Code} {E : Ev} {S0 : Hp} {r : (Int32 × Hp)} (C : ho_I p s m args meth c RX11 cX11_seat 6 (some .int)) :
    ∀ (k : Nat) (x1 : Int32) (x2 : Int32) (x3 : Int32) (x4 : Int32) (S : Hp), f_X11_seat_21 k x1 x2 x3 x4 S = some r → ho_G p l e s m args below meth c yH E S0 5 6 (some (.int r.1), r.2) 21 [(0, .ref (E.2.1 0)), (1, .int x1), (2, .int x2), (3, .int x3), (4, .int x4)] [] S := by
  intro k
  induction k with
  | zero =>
    intro x1 x2 x3 x4 S h
    exact absurd (show (none : Option (Int32 × Hp)) = some r from h) (by simp)
  | succ k ih =>
    intro x1 x2 x3 x4 S h H locs ls hR hl
    rw [f_X11_seat_21] at h
    refine lv_iload C.1 C.2.1 dX11_seat_21 (lv_at hl 4 rfl) ?_
    refine lv_bipush (v := (10 : Int32)) C.1 C.2.1 dX11_seat_23 (by decide) ?_
    refine lv_icmp_ge (tgt := 62) C.1 C.2.1 dX11_seat_25 (by decide) (fun hc => ?_) (fun hc => ?_)
    · replace h := if_t h hc
      refine lv_iload_n C.1 C.2.1 dX11_seat_62 rfl (lv_at hl 2 rfl) ?_
      exact ho_iret C hR h dX11_seat_63
    · replace h := if_f h hc
      refine lv_aload_n C.1 C.2.1 dX11_seat_28 rfl (lv_at hl 0 rfl) ?_
      refine ho_getR (a' := 50) C cf11 fH_RX11_49 hR aH_0 rfl dX11_seat_29 ?_
      refine lv_aload_n C.1 C.2.1 dX11_seat_32 rfl (lv_at hl 0 rfl) ?_
      refine ho_getR (a' := 1200) C cf11 fH_RX11_79 hR aH_0 rfl dX11_seat_33 ?_
      refine lv_iload_n C.1 C.2.1 dX11_seat_36 rfl (lv_at hl 1 rfl) ?_
      refine lv_iload C.1 C.2.1 dX11_seat_37 (lv_at hl 4 rfl) ?_
      obtain ⟨r1, S1, h1, h⟩ := ob2_ok h
      refine hr_Vi (v := r1) (S' := S1) (As := [.ref (E.2.1 1200), .int x1, .int x4]) (rest := []) C cf8 (c_X8_sightFrom l E 1200 x1 x4 aH_1200 _ _ h1) yv_X8_sightFrom lk_RX11_215 rfl aH_50 rfl rfl hl.1 (Nat.le_of_ble_eq_true rfl) (by decide) (by decide) hR (ho_A hR) dX11_seat_39 (fun H locs hR => ?_)
      refine lv_istore (lv' := [(5, .int r1), (0, .ref (E.2.1 0)), (1, .int x1), (2, .int x2), (3, .int x3), (4, .int x4)]) C.1 C.2.1 dX11_seat_42 hl (by decide) rfl (fun ls hl => ?_)
      refine lv_iload C.1 C.2.1 dX11_seat_44 (lv_at hl 0 rfl) ?_
      refine lv_iload_n C.1 C.2.1 dX11_seat_46 rfl (lv_at hl 4 rfl) ?_
      refine lv_icmp_le (tgt := 56) C.1 C.2.1 dX11_seat_47 (by decide) (fun hc => ?_) (fun hc => ?_)
      · replace h := if_t h hc
        exact w_X11_seat_56 C (f_X11_seat_21 k) ih x1 x2 x3 x4 S1 h _ _ _ hR (lv_sub hl [1, 2, 3, 4, 5] rfl)
      · replace h := if_f h hc
        refine lv_iload C.1 C.2.1 dX11_seat_50 (lv_at hl 0 rfl) ?_
        refine lv_istore_n (lv' := [(3, .int r1), (5, .int r1), (0, .ref (E.2.1 0)), (1, .int x1), (2, .int x2), (4, .int x4)]) C.1 C.2.1 dX11_seat_52 rfl hl (by decide) rfl (fun ls hl => ?_)
        refine lv_iload C.1 C.2.1 dX11_seat_53 (lv_at hl 5 rfl) ?_
        refine lv_istore_n (lv' := [(2, .int x4), (3, .int r1), (5, .int r1), (0, .ref (E.2.1 0)), (1, .int x1), (4, .int x4)]) C.1 C.2.1 dX11_seat_55 rfl hl (by decide) rfl (fun ls hl => ?_)
        exact w_X11_seat_56 C (f_X11_seat_21 k) ih x1 x4 r1 x4 S1 h _ _ _ hR (lv_sub hl [3, 4, 0, 1, 5] rfl)
def f_X11_seat (x1 : Int32) (S : Hp) : Option (Int32 × Hp) :=
  ldP yH S 0 1 2 (fun p1 => ob2 (f_X2_holds p1 (2 : Int32) x1 S) (fun r2 S2 => if r2 = 0 then some ((-1 : Int32), S2) else f_X11_seat_21 5000 x1 (0 : Int32) (-1 : Int32) (0 : Int32) S2))
set_option maxHeartbeats 4000000 in
set_option maxRecDepth 100000 in
theorem c_X11_seat (l : Launch) (E : Ev) (x1 : Int32) (S : Hp) (r : (Int32 × Hp)) (h : f_X11_seat x1 S = some r) : ho_M l yH E yX11_seat cX11_seat 6 (some .int) 5 [.ref (E.2.1 0), .int x1] S (some (.int r.1), r.2) := by
  refine ho_in (by decide) (Nat.le_of_ble_eq_true rfl) ?_
  intro p e s m args below meth c C hR ls hl
  have C : ho_I p s m args meth c RX11 cX11_seat 6 (some .int) := C
  have hl : lv_has ls 6 [(0, .ref (E.2.1 0)), (1, .int x1)] := hl
  unfold f_X11_seat at h
  refine lv_aload_n C.1 C.2.1 dX11_seat_0 rfl (lv_at hl 0 rfl) ?_
  obtain ⟨p1, e1, hp1, h⟩ := ldP_ok h
  refine hr_getP C cf11 fH_RX11_19 hR aH_0 e1 dX11_seat_1 ?_
  refine lv_iconst (v := (2 : Int32)) C.1 C.2.1 dX11_seat_4 (by decide) ?_
  refine lv_iload_n C.1 C.2.1 dX11_seat_5 rfl (lv_at hl 1 rfl) ?_
  obtain ⟨r2, S2, h2, h⟩ := ob2_ok h
  refine hr_Vi (v := r2) (S' := S2) (As := [.int (2 : Int32), .int x1]) (rest := []) C cf2 (c_X2_holds l E p1 (2 : Int32) x1 hp1 _ _ h2) yv_X2_holds lk_RX11_173 rfl hp1 rfl rfl hl.1 (Nat.le_of_ble_eq_true rfl) (by decide) (by decide) hR (ho_A hR) dX11_seat_6 (fun H locs hR => ?_)
  refine lv_if_ne (tgt := 14) C.1 C.2.1 dX11_seat_9 (by decide) (fun hc => ?_) (fun hc => ?_)
  · replace h := if_f h hc
    refine lv_iconst (v := (0 : Int32)) C.1 C.2.1 dX11_seat_14 (by decide) ?_
    refine lv_istore_n (lv' := [(2, .int (0 : Int32)), (0, .ref (E.2.1 0)), (1, .int x1)]) C.1 C.2.1 dX11_seat_15 rfl hl (by decide) rfl (fun ls hl => ?_)
    refine lv_iconst (v := (-1 : Int32)) C.1 C.2.1 dX11_seat_16 (by decide) ?_
    refine lv_istore_n (lv' := [(3, .int (-1 : Int32)), (2, .int (0 : Int32)), (0, .ref (E.2.1 0)), (1, .int x1)]) C.1 C.2.1 dX11_seat_17 rfl hl (by decide) rfl (fun ls hl => ?_)
    refine lv_iconst (v := (0 : Int32)) C.1 C.2.1 dX11_seat_18 (by decide) ?_
    refine lv_istore (lv' := [(4, .int (0 : Int32)), (3, .int (-1 : Int32)), (2, .int (0 : Int32)), (0, .ref (E.2.1 0)), (1, .int x1)]) C.1 C.2.1 dX11_seat_19 hl (by decide) rfl (fun ls hl => ?_)
    exact w_X11_seat_21 C 5000 x1 (0 : Int32) (-1 : Int32) (0 : Int32) S2 h _ _ _ hR (lv_sub hl [3, 4, 2, 1, 0] rfl)
  · replace h := if_t h hc
    refine lv_iconst (v := (-1 : Int32)) C.1 C.2.1 dX11_seat_12 (by decide) ?_
    exact ho_iret C hR h dX11_seat_13
theorem dX11_remember_0 : decode cX11_remember 0 = .ok (.aload_n 0, 1) := by decide +kernel
theorem dX11_remember_1 : decode cX11_remember 1 = .ok (.getfield 102, 3) := by decide +kernel
theorem dX11_remember_4 : decode cX11_remember 4 = .ok (.bipush 20, 2) := by decide +kernel
theorem dX11_remember_6 : decode cX11_remember 6 = .ok (.if_icmp .ne 26, 3) := by decide +kernel
theorem dX11_remember_9 : decode cX11_remember 9 = .ok (.aload_n 0, 1) := by decide +kernel
theorem dX11_remember_10 : decode cX11_remember 10 = .ok (.aload_n 0, 1) := by decide +kernel
theorem dX11_remember_11 : decode cX11_remember 11 = .ok (.getfield 98, 3) := by decide +kernel
theorem dX11_remember_14 : decode cX11_remember 14 = .ok (.iconst 1, 1) := by decide +kernel
theorem dX11_remember_15 : decode cX11_remember 15 = .ok (.iadd, 1) := by decide +kernel
theorem dX11_remember_16 : decode cX11_remember 16 = .ok (.bipush 20, 2) := by decide +kernel
theorem dX11_remember_18 : decode cX11_remember 18 = .ok (.irem, 1) := by decide +kernel
theorem dX11_remember_19 : decode cX11_remember 19 = .ok (.putfield 98, 3) := by decide +kernel
theorem dX11_remember_22 : decode cX11_remember 22 = .ok (.aload_n 0, 1) := by decide +kernel
theorem dX11_remember_23 : decode cX11_remember 23 = .ok (.dup, 1) := by decide +kernel
theorem dX11_remember_24 : decode cX11_remember 24 = .ok (.getfield 102, 3) := by decide +kernel
theorem dX11_remember_27 : decode cX11_remember 27 = .ok (.iconst 1, 1) := by decide +kernel
theorem dX11_remember_28 : decode cX11_remember 28 = .ok (.isub, 1) := by decide +kernel
theorem dX11_remember_29 : decode cX11_remember 29 = .ok (.putfield 102, 3) := by decide +kernel
theorem dX11_remember_32 : decode cX11_remember 32 = .ok (.aload_n 0, 1) := by decide +kernel
theorem dX11_remember_33 : decode cX11_remember 33 = .ok (.getfield 86, 3) := by decide +kernel
theorem dX11_remember_36 : decode cX11_remember 36 = .ok (.aload_n 0, 1) := by decide +kernel
theorem dX11_remember_37 : decode cX11_remember 37 = .ok (.getfield 98, 3) := by decide +kernel
theorem dX11_remember_40 : decode cX11_remember 40 = .ok (.aload_n 0, 1) := by decide +kernel
theorem dX11_remember_41 : decode cX11_remember 41 = .ok (.getfield 102, 3) := by decide +kernel
theorem dX11_remember_44 : decode cX11_remember 44 = .ok (.iadd, 1) := by decide +kernel
theorem dX11_remember_45 : decode cX11_remember 45 = .ok (.bipush 20, 2) := by decide +kernel
theorem dX11_remember_47 : decode cX11_remember 47 = .ok (.irem, 1) := by decide +kernel
theorem dX11_remember_48 : decode cX11_remember 48 = .ok (.aaload, 1) := by decide +kernel
theorem dX11_remember_49 : decode cX11_remember 49 = .ok (.aload_n 0, 1) := by decide +kernel
theorem dX11_remember_50 : decode cX11_remember 50 = .ok (.getfield 79, 3) := by decide +kernel
theorem dX11_remember_53 : decode cX11_remember 53 = .ok (.invokevirtual 226, 3) := by decide +kernel
theorem dX11_remember_56 : decode cX11_remember 56 = .ok (.aload_n 0, 1) := by decide +kernel
theorem dX11_remember_57 : decode cX11_remember 57 = .ok (.dup, 1) := by decide +kernel
theorem dX11_remember_58 : decode cX11_remember 58 = .ok (.getfield 102, 3) := by decide +kernel
theorem dX11_remember_61 : decode cX11_remember 61 = .ok (.iconst 1, 1) := by decide +kernel
theorem dX11_remember_62 : decode cX11_remember 62 = .ok (.iadd, 1) := by decide +kernel
theorem dX11_remember_63 : decode cX11_remember 63 = .ok (.putfield 102, 3) := by decide +kernel
theorem dX11_remember_66 : decode cX11_remember 66 = .ok (.aload_n 0, 1) := by decide +kernel
theorem dX11_remember_67 : decode cX11_remember 67 = .ok (.getfield 58, 3) := by decide +kernel
theorem dX11_remember_70 : decode cX11_remember 70 = .ok (.invokevirtual 328, 3) := by decide +kernel
theorem dX11_remember_73 : decode cX11_remember 73 = .ok (.return_, 1) := by decide +kernel
def f_X11_remember_32 (S : Hp) : Option Hp :=
  ldR yH 2 20 (((S.1 0 14) + (S.1 0 15)) - ((S.1 0 14) + (S.1 0 15)) / (20 : Int32) * (20 : Int32)) 1 9 (fun p1 => ob (f_X9_copy p1 1200 S) (fun S2 => le1 (ho_sI S2 0 15 ((S2.1 0 15) + (1 : Int32))) (fun S3 => ob (f_X0_forget S3) (fun S4 => some S4))))
set_option maxHeartbeats 4000000 in
set_option maxRecDepth 100000 in
theorem w_X11_remember_32 {p : Program} {l : Launch} {e : Env} {s : State} {m : MethodId} {args : Array Value} {below : List Frame} {meth : Method} {c : Code} {E : Ev} {S0 : Hp} {r : Hp} (C : ho_I p s m args meth c RX11 cX11_remember 1 none) :
    ∀ (S : Hp), f_X11_remember_32 S = some r → ho_G p l e s m args below meth c yH E S0 2 1 (none, r) 32 [(0, .ref (E.2.1 0))] [] S := by
  intro S h H locs ls hR hl
  unfold f_X11_remember_32 at h
  refine lv_aload_n C.1 C.2.1 dX11_remember_32 rfl (lv_at hl 0 rfl) ?_
  refine ho_getR (a' := 2) C cf11 fH_RX11_86 hR aH_0 rfl dX11_remember_33 ?_
  refine lv_aload_n C.1 C.2.1 dX11_remember_36 rfl (lv_at hl 0 rfl) ?_
  refine ho_getI C cf11 fH_RX11_98 hR aH_0 dX11_remember_37 ?_
  refine lv_aload_n C.1 C.2.1 dX11_remember_40 rfl (lv_at hl 0 rfl) ?_
  refine ho_getI C cf11 fH_RX11_102 hR aH_0 dX11_remember_41 ?_
  refine lv_iadd C.1 C.2.1 dX11_remember_44 ?_
  refine lv_bipush (v := (20 : Int32)) C.1 C.2.1 dX11_remember_45 (by decide) ?_
  refine lv_irem C.1 C.2.1 dX11_remember_47 (by decide) ?_
  obtain ⟨p1, e1, hi1, hp1, h⟩ := ldR_ok h
  refine hr_old C hR aH_2 hi1 e1 dX11_remember_48 ?_
  refine lv_aload_n C.1 C.2.1 dX11_remember_49 rfl (lv_at hl 0 rfl) ?_
  refine ho_getR (a' := 1200) C cf11 fH_RX11_79 hR aH_0 rfl dX11_remember_50 ?_
  obtain ⟨S2, h2, h⟩ := ob_ok h
  refine hr_Vv (S' := S2) (As := [.ref (E.2.1 1200)]) (rest := []) C cf9 (c_X9_copy l E p1 1200 hp1 aH_1200 _ _ h2) yv_X9_copy lk_RX11_226 rfl hp1 rfl rfl hl.1 (Nat.le_of_ble_eq_true rfl) (by decide) (by decide) hR (ho_A hR) dX11_remember_53 (fun H locs hR => ?_)
  refine lv_aload_n C.1 C.2.1 dX11_remember_56 rfl (lv_at hl 0 rfl) ?_
  refine lv_dup C.1 C.2.1 dX11_remember_57 rfl ?_
  refine ho_getI C cf11 fH_RX11_102 hR aH_0 dX11_remember_58 ?_
  refine lv_iconst (v := (1 : Int32)) C.1 C.2.1 dX11_remember_61 (by decide) ?_
  refine lv_iadd C.1 C.2.1 dX11_remember_62 ?_
  obtain ⟨S3, e3, h⟩ := le1_ok h
  refine hr_putI C cf11 fH_RX11_102 hR aH_0 e3 dX11_remember_63 (fun H locs hR => ?_)
  refine lv_aload_n C.1 C.2.1 dX11_remember_66 rfl (lv_at hl 0 rfl) ?_
  refine ho_getR (a' := 60) C cf11 fH_RX11_58 hR aH_0 rfl dX11_remember_67 ?_
  obtain ⟨S4, h4, h⟩ := ob_ok h
  refine hr_Vv (S' := S4) (As := []) (rest := []) C cf0 (c_X0_forget l E _ _ h4) yv_X0_forget lk_RX11_328 rfl aH_60 rfl rfl hl.1 (Nat.le_of_ble_eq_true rfl) (by decide) (by decide) hR (ho_A hR) dX11_remember_70 (fun H locs hR => ?_)
  exact ho_vret C hR h dX11_remember_73
def f_X11_remember (S : Hp) : Option Hp :=
  if (S.1 0 15) = (20 : Int32) then le1 (ho_sI S 0 14 (((S.1 0 14) + (1 : Int32)) - ((S.1 0 14) + (1 : Int32)) / (20 : Int32) * (20 : Int32))) (fun S1 => le1 (ho_sI S1 0 15 ((S1.1 0 15) - (1 : Int32))) (fun S2 => f_X11_remember_32 S2)) else f_X11_remember_32 S
set_option maxHeartbeats 4000000 in
set_option maxRecDepth 100000 in
theorem c_X11_remember (l : Launch) (E : Ev) (S : Hp) (r : Hp) (h : f_X11_remember S = some r) : ho_M l yH E yX11_remember cX11_remember 1 none 2 [.ref (E.2.1 0)] S (none, r) := by
  refine ho_in (by decide) (Nat.le_of_ble_eq_true rfl) ?_
  intro p e s m args below meth c C hR ls hl
  have C : ho_I p s m args meth c RX11 cX11_remember 1 none := C
  have hl : lv_has ls 1 [(0, .ref (E.2.1 0))] := hl
  unfold f_X11_remember at h
  refine lv_aload_n C.1 C.2.1 dX11_remember_0 rfl (lv_at hl 0 rfl) ?_
  refine ho_getI C cf11 fH_RX11_102 hR aH_0 dX11_remember_1 ?_
  refine lv_bipush (v := (20 : Int32)) C.1 C.2.1 dX11_remember_4 (by decide) ?_
  refine lv_icmp_ne (tgt := 32) C.1 C.2.1 dX11_remember_6 (by decide) (fun hc => ?_) (fun hc => ?_)
  · replace h := if_f h hc
    exact w_X11_remember_32 C S h _ _ _ hR (lv_sub hl [0] rfl)
  · replace h := if_t h hc
    refine lv_aload_n C.1 C.2.1 dX11_remember_9 rfl (lv_at hl 0 rfl) ?_
    refine lv_aload_n C.1 C.2.1 dX11_remember_10 rfl (lv_at hl 0 rfl) ?_
    refine ho_getI C cf11 fH_RX11_98 hR aH_0 dX11_remember_11 ?_
    refine lv_iconst (v := (1 : Int32)) C.1 C.2.1 dX11_remember_14 (by decide) ?_
    refine lv_iadd C.1 C.2.1 dX11_remember_15 ?_
    refine lv_bipush (v := (20 : Int32)) C.1 C.2.1 dX11_remember_16 (by decide) ?_
    refine lv_irem C.1 C.2.1 dX11_remember_18 (by decide) ?_
    obtain ⟨S1, e1, h⟩ := le1_ok h
    refine hr_putI C cf11 fH_RX11_98 hR aH_0 e1 dX11_remember_19 (fun H locs hR => ?_)
    refine lv_aload_n C.1 C.2.1 dX11_remember_22 rfl (lv_at hl 0 rfl) ?_
    refine lv_dup C.1 C.2.1 dX11_remember_23 rfl ?_
    refine ho_getI C cf11 fH_RX11_102 hR aH_0 dX11_remember_24 ?_
    refine lv_iconst (v := (1 : Int32)) C.1 C.2.1 dX11_remember_27 (by decide) ?_
    refine lv_isub C.1 C.2.1 dX11_remember_28 ?_
    obtain ⟨S2, e2, h⟩ := le1_ok h
    refine hr_putI C cf11 fH_RX11_102 hR aH_0 e2 dX11_remember_29 (fun H locs hR => ?_)
    exact w_X11_remember_32 C S2 h _ _ _ hR (lv_sub hl [0] rfl)
theorem dX11_show_0 : decode cX11_show 0 = .ok (.aload_n 0, 1) := by decide +kernel
theorem dX11_show_1 : decode cX11_show 1 = .ok (.iload_n 1, 1) := by decide +kernel
theorem dX11_show_2 : decode cX11_show 2 = .ok (.invokevirtual 248, 3) := by decide +kernel
theorem dX11_show_5 : decode cX11_show 5 = .ok (.ifCond .eq 16, 3) := by decide +kernel
theorem dX11_show_8 : decode cX11_show 8 = .ok (.aload_n 0, 1) := by decide +kernel
theorem dX11_show_9 : decode cX11_show 9 = .ok (.getfield 79, 3) := by decide +kernel
theorem dX11_show_12 : decode cX11_show 12 = .ok (.getfield 149, 3) := by decide +kernel
theorem dX11_show_15 : decode cX11_show 15 = .ok (.sipush 999, 3) := by decide +kernel
theorem dX11_show_18 : decode cX11_show 18 = .ok (.if_icmp .lt 9, 3) := by decide +kernel
theorem dX11_show_21 : decode cX11_show 21 = .ok (.aload_n 0, 1) := by decide +kernel
theorem dX11_show_22 : decode cX11_show 22 = .ok (.iconst 2, 1) := by decide +kernel
theorem dX11_show_23 : decode cX11_show 23 = .ok (.invokevirtual 111, 3) := by decide +kernel
theorem dX11_show_26 : decode cX11_show 26 = .ok (.ireturn, 1) := by decide +kernel
theorem dX11_show_27 : decode cX11_show 27 = .ok (.aload_n 0, 1) := by decide +kernel
theorem dX11_show_28 : decode cX11_show 28 = .ok (.invokevirtual 304, 3) := by decide +kernel
theorem dX11_show_31 : decode cX11_show 31 = .ok (.aload_n 0, 1) := by decide +kernel
theorem dX11_show_32 : decode cX11_show 32 = .ok (.getfield 49, 3) := by decide +kernel
theorem dX11_show_35 : decode cX11_show 35 = .ok (.aload_n 0, 1) := by decide +kernel
theorem dX11_show_36 : decode cX11_show 36 = .ok (.getfield 79, 3) := by decide +kernel
theorem dX11_show_39 : decode cX11_show 39 = .ok (.invokevirtual 230, 3) := by decide +kernel
theorem dX11_show_42 : decode cX11_show 42 = .ok (.aload_n 0, 1) := by decide +kernel
theorem dX11_show_43 : decode cX11_show 43 = .ok (.getfield 49, 3) := by decide +kernel
theorem dX11_show_46 : decode cX11_show 46 = .ok (.aload_n 0, 1) := by decide +kernel
theorem dX11_show_47 : decode cX11_show 47 = .ok (.getfield 79, 3) := by decide +kernel
theorem dX11_show_50 : decode cX11_show 50 = .ok (.invokevirtual 233, 3) := by decide +kernel
theorem dX11_show_53 : decode cX11_show 53 = .ok (.aload_n 0, 1) := by decide +kernel
theorem dX11_show_54 : decode cX11_show 54 = .ok (.getfield 49, 3) := by decide +kernel
theorem dX11_show_57 : decode cX11_show 57 = .ok (.aload_n 0, 1) := by decide +kernel
theorem dX11_show_58 : decode cX11_show 58 = .ok (.getfield 79, 3) := by decide +kernel
theorem dX11_show_61 : decode cX11_show 61 = .ok (.iload_n 1, 1) := by decide +kernel
theorem dX11_show_62 : decode cX11_show 62 = .ok (.aload_n 0, 1) := by decide +kernel
theorem dX11_show_63 : decode cX11_show 63 = .ok (.getfield 49, 3) := by decide +kernel
theorem dX11_show_66 : decode cX11_show 66 = .ok (.getfield 307, 3) := by decide +kernel
theorem dX11_show_69 : decode cX11_show 69 = .ok (.invokevirtual 310, 3) := by decide +kernel
theorem dX11_show_72 : decode cX11_show 72 = .ok (.ireturn, 1) := by decide +kernel
def f_X11_show_21 (S : Hp) : Option (Int32 × Hp) :=
  ob2 (f_X11_refuse (2 : Int32) S) (fun r1 S1 => some (r1, S1))
set_option maxHeartbeats 4000000 in
set_option maxRecDepth 100000 in
theorem w_X11_show_21 {p : Program} {l : Launch} {e : Env} {s : State} {m : MethodId} {args : Array Value} {below : List Frame} {meth : Method} {c : Code} {E : Ev} {S0 : Hp} {r : (Int32 × Hp)} (C : ho_I p s m args meth c RX11 cX11_show 2 (some .int)) :
    ∀ (S : Hp), f_X11_show_21 S = some r → ho_G p l e s m args below meth c yH E S0 5 2 (some (.int r.1), r.2) 21 [(0, .ref (E.2.1 0))] [] S := by
  intro S h H locs ls hR hl
  unfold f_X11_show_21 at h
  refine lv_aload_n C.1 C.2.1 dX11_show_21 rfl (lv_at hl 0 rfl) ?_
  refine lv_iconst (v := (2 : Int32)) C.1 C.2.1 dX11_show_22 (by decide) ?_
  obtain ⟨r1, S1, h1, h⟩ := ob2_ok h
  refine hr_Vi (v := r1) (S' := S1) (As := [.int (2 : Int32)]) (rest := []) C cf11 (c_X11_refuse l E (2 : Int32) _ _ h1) yv_X11_refuse lk_RX11_111 rfl aH_0 rfl rfl hl.1 (Nat.le_of_ble_eq_true rfl) (by decide) (by decide) hR (ho_A hR) dX11_show_23 (fun H locs hR => ?_)
  exact ho_iret C hR h dX11_show_26
def f_X11_show (x1 : Int32) (S : Hp) : Option (Int32 × Hp) :=
  ob2 (f_X11_canGive x1 S) (fun r1 S1 => if r1 = 0 then f_X11_show_21 S1 else if (S1.1 1200 0) < (999 : Int32) then ob (f_X11_remember S1) (fun S2 => ob (f_X8_ripen 1200 S2) (fun S3 => ob (f_X8_lookAtAll 1200 S3) (fun S4 => ob2 (f_X8_give 1200 x1 51 6 S4) (fun r5 S5 => some (r5, S5))))) else f_X11_show_21 S1)
set_option maxHeartbeats 4000000 in
set_option maxRecDepth 100000 in
theorem c_X11_show (l : Launch) (E : Ev) (x1 : Int32) (S : Hp) (r : (Int32 × Hp)) (h : f_X11_show x1 S = some r) : ho_M l yH E yX11_show cX11_show 2 (some .int) 5 [.ref (E.2.1 0), .int x1] S (some (.int r.1), r.2) := by
  refine ho_in (by decide) (Nat.le_of_ble_eq_true rfl) ?_
  intro p e s m args below meth c C hR ls hl
  have C : ho_I p s m args meth c RX11 cX11_show 2 (some .int) := C
  have hl : lv_has ls 2 [(0, .ref (E.2.1 0)), (1, .int x1)] := hl
  unfold f_X11_show at h
  refine lv_aload_n C.1 C.2.1 dX11_show_0 rfl (lv_at hl 0 rfl) ?_
  refine lv_iload_n C.1 C.2.1 dX11_show_1 rfl (lv_at hl 1 rfl) ?_
  obtain ⟨r1, S1, h1, h⟩ := ob2_ok h
  refine hr_Vi (v := r1) (S' := S1) (As := [.int x1]) (rest := []) C cf11 (c_X11_canGive l E x1 _ _ h1) yv_X11_canGive lk_RX11_248 rfl aH_0 rfl rfl hl.1 (Nat.le_of_ble_eq_true rfl) (by decide) (by decide) hR (ho_A hR) dX11_show_2 (fun H locs hR => ?_)
  refine lv_if_eq (tgt := 21) C.1 C.2.1 dX11_show_5 (by decide) (fun hc => ?_) (fun hc => ?_)
  · replace h := if_t h hc
    exact w_X11_show_21 C S1 h _ _ _ hR (lv_sub hl [0] rfl)
  · replace h := if_f h hc
    refine lv_aload_n C.1 C.2.1 dX11_show_8 rfl (lv_at hl 0 rfl) ?_
    refine ho_getR (a' := 1200) C cf11 fH_RX11_79 hR aH_0 rfl dX11_show_9 ?_
    refine ho_getI C cf9 fH_RX11_149 hR aH_1200 dX11_show_12 ?_
    refine lv_sipush (v := (999 : Int32)) C.1 C.2.1 dX11_show_15 (by decide) ?_
    refine lv_icmp_lt (tgt := 27) C.1 C.2.1 dX11_show_18 (by decide) (fun hc => ?_) (fun hc => ?_)
    · replace h := if_t h hc
      refine lv_aload_n C.1 C.2.1 dX11_show_27 rfl (lv_at hl 0 rfl) ?_
      obtain ⟨S2, h2, h⟩ := ob_ok h
      refine hr_Vv (S' := S2) (As := []) (rest := []) C cf11 (c_X11_remember l E _ _ h2) yv_X11_remember lk_RX11_304 rfl aH_0 rfl rfl hl.1 (Nat.le_of_ble_eq_true rfl) (by decide) (by decide) hR (ho_A hR) dX11_show_28 (fun H locs hR => ?_)
      refine lv_aload_n C.1 C.2.1 dX11_show_31 rfl (lv_at hl 0 rfl) ?_
      refine ho_getR (a' := 50) C cf11 fH_RX11_49 hR aH_0 rfl dX11_show_32 ?_
      refine lv_aload_n C.1 C.2.1 dX11_show_35 rfl (lv_at hl 0 rfl) ?_
      refine ho_getR (a' := 1200) C cf11 fH_RX11_79 hR aH_0 rfl dX11_show_36 ?_
      obtain ⟨S3, h3, h⟩ := ob_ok h
      refine hr_Vv (S' := S3) (As := [.ref (E.2.1 1200)]) (rest := []) C cf8 (c_X8_ripen l E 1200 aH_1200 _ _ h3) yv_X8_ripen lk_RX11_230 rfl aH_50 rfl rfl hl.1 (Nat.le_of_ble_eq_true rfl) (by decide) (by decide) hR (ho_A hR) dX11_show_39 (fun H locs hR => ?_)
      refine lv_aload_n C.1 C.2.1 dX11_show_42 rfl (lv_at hl 0 rfl) ?_
      refine ho_getR (a' := 50) C cf11 fH_RX11_49 hR aH_0 rfl dX11_show_43 ?_
      refine lv_aload_n C.1 C.2.1 dX11_show_46 rfl (lv_at hl 0 rfl) ?_
      refine ho_getR (a' := 1200) C cf11 fH_RX11_79 hR aH_0 rfl dX11_show_47 ?_
      obtain ⟨S4, h4, h⟩ := ob_ok h
      refine hr_Vv (S' := S4) (As := [.ref (E.2.1 1200)]) (rest := []) C cf8 (c_X8_lookAtAll l E 1200 aH_1200 _ _ h4) yv_X8_lookAtAll lk_RX11_233 rfl aH_50 rfl rfl hl.1 (Nat.le_of_ble_eq_true rfl) (by decide) (by decide) hR (ho_A hR) dX11_show_50 (fun H locs hR => ?_)
      refine lv_aload_n C.1 C.2.1 dX11_show_53 rfl (lv_at hl 0 rfl) ?_
      refine ho_getR (a' := 50) C cf11 fH_RX11_49 hR aH_0 rfl dX11_show_54 ?_
      refine lv_aload_n C.1 C.2.1 dX11_show_57 rfl (lv_at hl 0 rfl) ?_
      refine ho_getR (a' := 1200) C cf11 fH_RX11_79 hR aH_0 rfl dX11_show_58 ?_
      refine lv_iload_n C.1 C.2.1 dX11_show_61 rfl (lv_at hl 1 rfl) ?_
      refine lv_aload_n C.1 C.2.1 dX11_show_62 rfl (lv_at hl 0 rfl) ?_
      refine ho_getR (a' := 50) C cf11 fH_RX11_49 hR aH_0 rfl dX11_show_63 ?_
      refine ho_getR (a' := 51) C cf8 fH_RX11_307 hR aH_50 rfl dX11_show_66 ?_
      obtain ⟨r5, S5, h5, h⟩ := ob2_ok h
      refine hr_Vi (v := r5) (S' := S5) (As := [.ref (E.2.1 1200), .int x1, .ref (E.2.1 51)]) (rest := []) C cf8 (c_X8_give l E 1200 x1 51 6 aH_1200 aH_51 _ _ h5) yv_X8_give lk_RX11_310 rfl aH_50 rfl rfl hl.1 (Nat.le_of_ble_eq_true rfl) (by decide) (by decide) hR (ho_A hR) dX11_show_69 (fun H locs hR => ?_)
      exact ho_iret C hR h dX11_show_72
    · replace h := if_f h hc
      exact w_X11_show_21 C S1 h _ _ _ hR (lv_sub hl [0] rfl)
theorem dX11_sit_0 : decode cX11_sit 0 = .ok (.aload_n 0, 1) := by decide +kernel
theorem dX11_sit_1 : decode cX11_sit 1 = .ok (.getfield 19, 3) := by decide +kernel
theorem dX11_sit_4 : decode cX11_sit 4 = .ok (.iconst 2, 1) := by decide +kernel
theorem dX11_sit_5 : decode cX11_sit 5 = .ok (.iload_n 1, 1) := by decide +kernel
theorem dX11_sit_6 : decode cX11_sit 6 = .ok (.invokevirtual 173, 3) := by decide +kernel
theorem dX11_sit_9 : decode cX11_sit 9 = .ok (.ifCond .eq 26, 3) := by decide +kernel
theorem dX11_sit_12 : decode cX11_sit 12 = .ok (.iload_n 2, 1) := by decide +kernel
theorem dX11_sit_13 : decode cX11_sit 13 = .ok (.ifCond .lt 22, 3) := by decide +kernel
theorem dX11_sit_16 : decode cX11_sit 16 = .ok (.iload_n 2, 1) := by decide +kernel
theorem dX11_sit_17 : decode cX11_sit 17 = .ok (.bipush 10, 2) := by decide +kernel
theorem dX11_sit_19 : decode cX11_sit 19 = .ok (.if_icmp .ge 16, 3) := by decide +kernel
theorem dX11_sit_22 : decode cX11_sit 22 = .ok (.aload_n 0, 1) := by decide +kernel
theorem dX11_sit_23 : decode cX11_sit 23 = .ok (.getfield 79, 3) := by decide +kernel
theorem dX11_sit_26 : decode cX11_sit 26 = .ok (.getfield 209, 3) := by decide +kernel
theorem dX11_sit_29 : decode cX11_sit 29 = .ok (.iload_n 1, 1) := by decide +kernel
theorem dX11_sit_30 : decode cX11_sit 30 = .ok (.iaload, 1) := by decide +kernel
theorem dX11_sit_31 : decode cX11_sit 31 = .ok (.iload_n 2, 1) := by decide +kernel
theorem dX11_sit_32 : decode cX11_sit 32 = .ok (.if_icmp .ne 9, 3) := by decide +kernel
theorem dX11_sit_35 : decode cX11_sit 35 = .ok (.aload_n 0, 1) := by decide +kernel
theorem dX11_sit_36 : decode cX11_sit 36 = .ok (.iconst 2, 1) := by decide +kernel
theorem dX11_sit_37 : decode cX11_sit 37 = .ok (.invokevirtual 119, 3) := by decide +kernel
theorem dX11_sit_40 : decode cX11_sit 40 = .ok (.ireturn, 1) := by decide +kernel
theorem dX11_sit_41 : decode cX11_sit 41 = .ok (.aload_n 0, 1) := by decide +kernel
theorem dX11_sit_42 : decode cX11_sit 42 = .ok (.invokevirtual 304, 3) := by decide +kernel
theorem dX11_sit_45 : decode cX11_sit 45 = .ok (.aload_n 0, 1) := by decide +kernel
theorem dX11_sit_46 : decode cX11_sit 46 = .ok (.getfield 79, 3) := by decide +kernel
theorem dX11_sit_49 : decode cX11_sit 49 = .ok (.getfield 209, 3) := by decide +kernel
theorem dX11_sit_52 : decode cX11_sit 52 = .ok (.iload_n 1, 1) := by decide +kernel
theorem dX11_sit_53 : decode cX11_sit 53 = .ok (.iload_n 2, 1) := by decide +kernel
theorem dX11_sit_54 : decode cX11_sit 54 = .ok (.iastore, 1) := by decide +kernel
theorem dX11_sit_55 : decode cX11_sit 55 = .ok (.iconst 1, 1) := by decide +kernel
theorem dX11_sit_56 : decode cX11_sit 56 = .ok (.ireturn, 1) := by decide +kernel
def f_X11_sit_35 (S : Hp) : Option (Int32 × Hp) :=
  ob2 (f_X11_refuses (2 : Int32) S) (fun r1 S1 => tr r1 (some (r1, S1)))
set_option maxHeartbeats 4000000 in
set_option maxRecDepth 100000 in
theorem w_X11_sit_35 {p : Program} {l : Launch} {e : Env} {s : State} {m : MethodId} {args : Array Value} {below : List Frame} {meth : Method} {c : Code} {E : Ev} {S0 : Hp} {r : (Int32 × Hp)} (C : ho_I p s m args meth c RX11 cX11_sit 3 (some .boolean)) :
    ∀ (S : Hp), f_X11_sit_35 S = some r → ho_G p l e s m args below meth c yH E S0 3 3 (some (.int r.1), r.2) 35 [(0, .ref (E.2.1 0))] [] S := by
  intro S h H locs ls hR hl
  unfold f_X11_sit_35 at h
  refine lv_aload_n C.1 C.2.1 dX11_sit_35 rfl (lv_at hl 0 rfl) ?_
  refine lv_iconst (v := (2 : Int32)) C.1 C.2.1 dX11_sit_36 (by decide) ?_
  obtain ⟨r1, S1, h1, h⟩ := ob2_ok h
  refine hr_Vi (v := r1) (S' := S1) (As := [.int (2 : Int32)]) (rest := []) C cf11 (c_X11_refuses l E (2 : Int32) _ _ h1) yv_X11_refuses lk_RX11_119 rfl aH_0 rfl rfl hl.1 (Nat.le_of_ble_eq_true rfl) (by decide) (by decide) hR (ho_A hR) dX11_sit_37 (fun H locs hR => ?_)
  obtain ⟨hz, h⟩ := tr_ok h
  exact ho_zret C hR hz h dX11_sit_40
def f_X11_sit (x1 : Int32) (x2 : Int32) (S : Hp) : Option (Int32 × Hp) :=
  ldP yH S 0 1 2 (fun p1 => ob2 (f_X2_holds p1 (2 : Int32) x1 S) (fun r2 S2 => if r2 = 0 then f_X11_sit_35 S2 else if x2 < 0 then f_X11_sit_35 S2 else if (10 : Int32) ≤ x2 then f_X11_sit_35 S2 else ldI S2 1204 5 x1 (fun v3 => if v3 = x2 then f_X11_sit_35 S2 else ob (f_X11_remember S2) (fun S4 => stI S4 1204 5 x1 x2 (fun S5 => some ((1 : Int32), S5))))))
set_option maxHeartbeats 4000000 in
set_option maxRecDepth 100000 in
theorem c_X11_sit (l : Launch) (E : Ev) (x1 : Int32) (x2 : Int32) (S : Hp) (r : (Int32 × Hp)) (h : f_X11_sit x1 x2 S = some r) : ho_M l yH E yX11_sit cX11_sit 3 (some .boolean) 3 [.ref (E.2.1 0), .int x1, .int x2] S (some (.int r.1), r.2) := by
  refine ho_in (by decide) (Nat.le_of_ble_eq_true rfl) ?_
  intro p e s m args below meth c C hR ls hl
  have C : ho_I p s m args meth c RX11 cX11_sit 3 (some .boolean) := C
  have hl : lv_has ls 3 [(0, .ref (E.2.1 0)), (1, .int x1), (2, .int x2)] := hl
  unfold f_X11_sit at h
  refine lv_aload_n C.1 C.2.1 dX11_sit_0 rfl (lv_at hl 0 rfl) ?_
  obtain ⟨p1, e1, hp1, h⟩ := ldP_ok h
  refine hr_getP C cf11 fH_RX11_19 hR aH_0 e1 dX11_sit_1 ?_
  refine lv_iconst (v := (2 : Int32)) C.1 C.2.1 dX11_sit_4 (by decide) ?_
  refine lv_iload_n C.1 C.2.1 dX11_sit_5 rfl (lv_at hl 1 rfl) ?_
  obtain ⟨r2, S2, h2, h⟩ := ob2_ok h
  refine hr_Vi (v := r2) (S' := S2) (As := [.int (2 : Int32), .int x1]) (rest := []) C cf2 (c_X2_holds l E p1 (2 : Int32) x1 hp1 _ _ h2) yv_X2_holds lk_RX11_173 rfl hp1 rfl rfl hl.1 (Nat.le_of_ble_eq_true rfl) (by decide) (by decide) hR (ho_A hR) dX11_sit_6 (fun H locs hR => ?_)
  refine lv_if_eq (tgt := 35) C.1 C.2.1 dX11_sit_9 (by decide) (fun hc => ?_) (fun hc => ?_)
  · replace h := if_t h hc
    exact w_X11_sit_35 C S2 h _ _ _ hR (lv_sub hl [0] rfl)
  · replace h := if_f h hc
    refine lv_iload_n C.1 C.2.1 dX11_sit_12 rfl (lv_at hl 2 rfl) ?_
    refine lv_if_lt (tgt := 35) C.1 C.2.1 dX11_sit_13 (by decide) (fun hc => ?_) (fun hc => ?_)
    · replace h := if_t h hc
      exact w_X11_sit_35 C S2 h _ _ _ hR (lv_sub hl [0] rfl)
    · replace h := if_f h hc
      refine lv_iload_n C.1 C.2.1 dX11_sit_16 rfl (lv_at hl 2 rfl) ?_
      refine lv_bipush (v := (10 : Int32)) C.1 C.2.1 dX11_sit_17 (by decide) ?_
      refine lv_icmp_ge (tgt := 35) C.1 C.2.1 dX11_sit_19 (by decide) (fun hc => ?_) (fun hc => ?_)
      · replace h := if_t h hc
        exact w_X11_sit_35 C S2 h _ _ _ hR (lv_sub hl [0] rfl)
      · replace h := if_f h hc
        refine lv_aload_n C.1 C.2.1 dX11_sit_22 rfl (lv_at hl 0 rfl) ?_
        refine ho_getR (a' := 1200) C cf11 fH_RX11_79 hR aH_0 rfl dX11_sit_23 ?_
        refine ho_getR (a' := 1204) C cf9 fH_RX11_209 hR aH_1200 rfl dX11_sit_26 ?_
        refine lv_iload_n C.1 C.2.1 dX11_sit_29 rfl (lv_at hl 1 rfl) ?_
        obtain ⟨v3, e3, hi3, h⟩ := ldI_ok h
        refine hr_ild C hR aH_1204 hi3 e3 dX11_sit_30 ?_
        refine lv_iload_n C.1 C.2.1 dX11_sit_31 rfl (lv_at hl 2 rfl) ?_
        refine lv_icmp_ne (tgt := 41) C.1 C.2.1 dX11_sit_32 (by decide) (fun hc => ?_) (fun hc => ?_)
        · replace h := if_f h hc
          refine lv_aload_n C.1 C.2.1 dX11_sit_41 rfl (lv_at hl 0 rfl) ?_
          obtain ⟨S4, h4, h⟩ := ob_ok h
          refine hr_Vv (S' := S4) (As := []) (rest := []) C cf11 (c_X11_remember l E _ _ h4) yv_X11_remember lk_RX11_304 rfl aH_0 rfl rfl hl.1 (Nat.le_of_ble_eq_true rfl) (by decide) (by decide) hR (ho_A hR) dX11_sit_42 (fun H locs hR => ?_)
          refine lv_aload_n C.1 C.2.1 dX11_sit_45 rfl (lv_at hl 0 rfl) ?_
          refine ho_getR (a' := 1200) C cf11 fH_RX11_79 hR aH_0 rfl dX11_sit_46 ?_
          refine ho_getR (a' := 1204) C cf9 fH_RX11_209 hR aH_1200 rfl dX11_sit_49 ?_
          refine lv_iload_n C.1 C.2.1 dX11_sit_52 rfl (lv_at hl 1 rfl) ?_
          refine lv_iload_n C.1 C.2.1 dX11_sit_53 rfl (lv_at hl 2 rfl) ?_
          obtain ⟨S5, e5, hi5, h⟩ := stI_ok h
          refine hr_ist C hR aH_1204 hi5 e5 dX11_sit_54 (fun H locs hR => ?_)
          refine lv_iconst (v := (1 : Int32)) C.1 C.2.1 dX11_sit_55 (by decide) ?_
          exact ho_zret C hR (Or.inr rfl) h dX11_sit_56
        · replace h := if_t h hc
          exact w_X11_sit_35 C S2 h _ _ _ hR (lv_sub hl [0] rfl)
theorem dX11_move_0 : decode cX11_move 0 = .ok (.aload_n 0, 1) := by decide +kernel
theorem dX11_move_1 : decode cX11_move 1 = .ok (.getfield 19, 3) := by decide +kernel
theorem dX11_move_4 : decode cX11_move 4 = .ok (.iconst 0, 1) := by decide +kernel
theorem dX11_move_5 : decode cX11_move 5 = .ok (.iload_n 1, 1) := by decide +kernel
theorem dX11_move_6 : decode cX11_move 6 = .ok (.invokevirtual 173, 3) := by decide +kernel
theorem dX11_move_9 : decode cX11_move 9 = .ok (.ifCond .eq 20, 3) := by decide +kernel
theorem dX11_move_12 : decode cX11_move 12 = .ok (.aload_n 0, 1) := by decide +kernel
theorem dX11_move_13 : decode cX11_move 13 = .ok (.getfield 19, 3) := by decide +kernel
theorem dX11_move_16 : decode cX11_move 16 = .ok (.iconst 0, 1) := by decide +kernel
theorem dX11_move_17 : decode cX11_move 17 = .ok (.iload_n 2, 1) := by decide +kernel
theorem dX11_move_18 : decode cX11_move 18 = .ok (.invokevirtual 173, 3) := by decide +kernel
theorem dX11_move_21 : decode cX11_move 21 = .ok (.ifCond .eq 8, 3) := by decide +kernel
theorem dX11_move_24 : decode cX11_move 24 = .ok (.iload_n 1, 1) := by decide +kernel
theorem dX11_move_25 : decode cX11_move 25 = .ok (.iload_n 2, 1) := by decide +kernel
theorem dX11_move_26 : decode cX11_move 26 = .ok (.if_icmp .ne 9, 3) := by decide +kernel
theorem dX11_move_29 : decode cX11_move 29 = .ok (.aload_n 0, 1) := by decide +kernel
theorem dX11_move_30 : decode cX11_move 30 = .ok (.iconst 2, 1) := by decide +kernel
theorem dX11_move_31 : decode cX11_move 31 = .ok (.invokevirtual 119, 3) := by decide +kernel
theorem dX11_move_34 : decode cX11_move 34 = .ok (.ireturn, 1) := by decide +kernel
theorem dX11_move_35 : decode cX11_move 35 = .ok (.iload_n 3, 1) := by decide +kernel
theorem dX11_move_36 : decode cX11_move 36 = .ok (.iconst 1, 1) := by decide +kernel
theorem dX11_move_37 : decode cX11_move 37 = .ok (.if_icmp .lt 33, 3) := by decide +kernel
theorem dX11_move_40 : decode cX11_move 40 = .ok (.iload_n 3, 1) := by decide +kernel
theorem dX11_move_41 : decode cX11_move 41 = .ok (.aload_n 0, 1) := by decide +kernel
theorem dX11_move_42 : decode cX11_move 42 = .ok (.getfield 79, 3) := by decide +kernel
theorem dX11_move_45 : decode cX11_move 45 = .ok (.getfield 181, 3) := by decide +kernel
theorem dX11_move_48 : decode cX11_move 48 = .ok (.iload_n 1, 1) := by decide +kernel
theorem dX11_move_49 : decode cX11_move 49 = .ok (.iaload, 1) := by decide +kernel
theorem dX11_move_50 : decode cX11_move 50 = .ok (.if_icmp .gt 20, 3) := by decide +kernel
theorem dX11_move_53 : decode cX11_move 53 = .ok (.iload_n 3, 1) := by decide +kernel
theorem dX11_move_54 : decode cX11_move 54 = .ok (.sipush 9999, 3) := by decide +kernel
theorem dX11_move_57 : decode cX11_move 57 = .ok (.aload_n 0, 1) := by decide +kernel
theorem dX11_move_58 : decode cX11_move 58 = .ok (.getfield 79, 3) := by decide +kernel
theorem dX11_move_61 : decode cX11_move 61 = .ok (.getfield 181, 3) := by decide +kernel
theorem dX11_move_64 : decode cX11_move 64 = .ok (.iload_n 2, 1) := by decide +kernel
theorem dX11_move_65 : decode cX11_move 65 = .ok (.iaload, 1) := by decide +kernel
theorem dX11_move_66 : decode cX11_move 66 = .ok (.isub, 1) := by decide +kernel
theorem dX11_move_67 : decode cX11_move 67 = .ok (.if_icmp .le 9, 3) := by decide +kernel
theorem dX11_move_70 : decode cX11_move 70 = .ok (.aload_n 0, 1) := by decide +kernel
theorem dX11_move_71 : decode cX11_move 71 = .ok (.iconst 2, 1) := by decide +kernel
theorem dX11_move_72 : decode cX11_move 72 = .ok (.invokevirtual 119, 3) := by decide +kernel
theorem dX11_move_75 : decode cX11_move 75 = .ok (.ireturn, 1) := by decide +kernel
theorem dX11_move_76 : decode cX11_move 76 = .ok (.aload_n 0, 1) := by decide +kernel
theorem dX11_move_77 : decode cX11_move 77 = .ok (.invokevirtual 304, 3) := by decide +kernel
theorem dX11_move_80 : decode cX11_move 80 = .ok (.aload_n 0, 1) := by decide +kernel
theorem dX11_move_81 : decode cX11_move 81 = .ok (.getfield 79, 3) := by decide +kernel
theorem dX11_move_84 : decode cX11_move 84 = .ok (.getfield 181, 3) := by decide +kernel
theorem dX11_move_87 : decode cX11_move 87 = .ok (.iload_n 1, 1) := by decide +kernel
theorem dX11_move_88 : decode cX11_move 88 = .ok (.dup2, 1) := by decide +kernel
theorem dX11_move_89 : decode cX11_move 89 = .ok (.iaload, 1) := by decide +kernel
theorem dX11_move_90 : decode cX11_move 90 = .ok (.iload_n 3, 1) := by decide +kernel
theorem dX11_move_91 : decode cX11_move 91 = .ok (.isub, 1) := by decide +kernel
theorem dX11_move_92 : decode cX11_move 92 = .ok (.iastore, 1) := by decide +kernel
theorem dX11_move_93 : decode cX11_move 93 = .ok (.aload_n 0, 1) := by decide +kernel
theorem dX11_move_94 : decode cX11_move 94 = .ok (.getfield 79, 3) := by decide +kernel
theorem dX11_move_97 : decode cX11_move 97 = .ok (.getfield 181, 3) := by decide +kernel
theorem dX11_move_100 : decode cX11_move 100 = .ok (.iload_n 2, 1) := by decide +kernel
theorem dX11_move_101 : decode cX11_move 101 = .ok (.dup2, 1) := by decide +kernel
theorem dX11_move_102 : decode cX11_move 102 = .ok (.iaload, 1) := by decide +kernel
theorem dX11_move_103 : decode cX11_move 103 = .ok (.iload_n 3, 1) := by decide +kernel
theorem dX11_move_104 : decode cX11_move 104 = .ok (.iadd, 1) := by decide +kernel
theorem dX11_move_105 : decode cX11_move 105 = .ok (.iastore, 1) := by decide +kernel
theorem dX11_move_106 : decode cX11_move 106 = .ok (.iconst 1, 1) := by decide +kernel
theorem dX11_move_107 : decode cX11_move 107 = .ok (.ireturn, 1) := by decide +kernel
def f_X11_move_29 (S : Hp) : Option (Int32 × Hp) :=
  ob2 (f_X11_refuses (2 : Int32) S) (fun r1 S1 => tr r1 (some (r1, S1)))
set_option maxHeartbeats 4000000 in
set_option maxRecDepth 100000 in
theorem w_X11_move_29 {p : Program} {l : Launch} {e : Env} {s : State} {m : MethodId} {args : Array Value} {below : List Frame} {meth : Method} {c : Code} {E : Ev} {S0 : Hp} {r : (Int32 × Hp)} (C : ho_I p s m args meth c RX11 cX11_move 4 (some .boolean)) :
    ∀ (S : Hp), f_X11_move_29 S = some r → ho_G p l e s m args below meth c yH E S0 3 4 (some (.int r.1), r.2) 29 [(0, .ref (E.2.1 0))] [] S := by
  intro S h H locs ls hR hl
  unfold f_X11_move_29 at h
  refine lv_aload_n C.1 C.2.1 dX11_move_29 rfl (lv_at hl 0 rfl) ?_
  refine lv_iconst (v := (2 : Int32)) C.1 C.2.1 dX11_move_30 (by decide) ?_
  obtain ⟨r1, S1, h1, h⟩ := ob2_ok h
  refine hr_Vi (v := r1) (S' := S1) (As := [.int (2 : Int32)]) (rest := []) C cf11 (c_X11_refuses l E (2 : Int32) _ _ h1) yv_X11_refuses lk_RX11_119 rfl aH_0 rfl rfl hl.1 (Nat.le_of_ble_eq_true rfl) (by decide) (by decide) hR (ho_A hR) dX11_move_31 (fun H locs hR => ?_)
  obtain ⟨hz, h⟩ := tr_ok h
  exact ho_zret C hR hz h dX11_move_34
def f_X11_move_70 (S : Hp) : Option (Int32 × Hp) :=
  ob2 (f_X11_refuses (2 : Int32) S) (fun r1 S1 => tr r1 (some (r1, S1)))
set_option maxHeartbeats 4000000 in
set_option maxRecDepth 100000 in
theorem w_X11_move_70 {p : Program} {l : Launch} {e : Env} {s : State} {m : MethodId} {args : Array Value} {below : List Frame} {meth : Method} {c : Code} {E : Ev} {S0 : Hp} {r : (Int32 × Hp)} (C : ho_I p s m args meth c RX11 cX11_move 4 (some .boolean)) :
    ∀ (S : Hp), f_X11_move_70 S = some r → ho_G p l e s m args below meth c yH E S0 3 4 (some (.int r.1), r.2) 70 [(0, .ref (E.2.1 0))] [] S := by
  intro S h H locs ls hR hl
  unfold f_X11_move_70 at h
  refine lv_aload_n C.1 C.2.1 dX11_move_70 rfl (lv_at hl 0 rfl) ?_
  refine lv_iconst (v := (2 : Int32)) C.1 C.2.1 dX11_move_71 (by decide) ?_
  obtain ⟨r1, S1, h1, h⟩ := ob2_ok h
  refine hr_Vi (v := r1) (S' := S1) (As := [.int (2 : Int32)]) (rest := []) C cf11 (c_X11_refuses l E (2 : Int32) _ _ h1) yv_X11_refuses lk_RX11_119 rfl aH_0 rfl rfl hl.1 (Nat.le_of_ble_eq_true rfl) (by decide) (by decide) hR (ho_A hR) dX11_move_72 (fun H locs hR => ?_)
  obtain ⟨hz, h⟩ := tr_ok h
  exact ho_zret C hR hz h dX11_move_75
def f_X11_move (x1 : Int32) (x2 : Int32) (x3 : Int32) (S : Hp) : Option (Int32 × Hp) :=
  ldP yH S 0 1 2 (fun p1 => ob2 (f_X2_holds p1 (0 : Int32) x1 S) (fun r2 S2 => if r2 = 0 then f_X11_move_29 S2 else ldP yH S2 0 1 2 (fun p3 => ob2 (f_X2_holds p3 (0 : Int32) x2 S2) (fun r4 S4 => if r4 = 0 then f_X11_move_29 S4 else if x1 = x2 then f_X11_move_29 S4 else if x3 < (1 : Int32) then f_X11_move_70 S4 else ldI S4 1201 6 x1 (fun v5 => if v5 < x3 then f_X11_move_70 S4 else ldI S4 1201 6 x2 (fun v6 => if x3 ≤ ((9999 : Int32) - v6) then ob (f_X11_remember S4) (fun S7 => ldI S7 1201 6 x1 (fun v8 => stI S7 1201 6 x1 (v8 - x3) (fun S9 => ldI S9 1201 6 x2 (fun v10 => stI S9 1201 6 x2 (v10 + x3) (fun S11 => some ((1 : Int32), S11)))))) else f_X11_move_70 S4))))))
set_option maxHeartbeats 4000000 in
set_option maxRecDepth 100000 in
theorem c_X11_move (l : Launch) (E : Ev) (x1 : Int32) (x2 : Int32) (x3 : Int32) (S : Hp) (r : (Int32 × Hp)) (h : f_X11_move x1 x2 x3 S = some r) : ho_M l yH E yX11_move cX11_move 4 (some .boolean) 3 [.ref (E.2.1 0), .int x1, .int x2, .int x3] S (some (.int r.1), r.2) := by
  refine ho_in (by decide) (Nat.le_of_ble_eq_true rfl) ?_
  intro p e s m args below meth c C hR ls hl
  have C : ho_I p s m args meth c RX11 cX11_move 4 (some .boolean) := C
  have hl : lv_has ls 4 [(0, .ref (E.2.1 0)), (1, .int x1), (2, .int x2), (3, .int x3)] := hl
  unfold f_X11_move at h
  refine lv_aload_n C.1 C.2.1 dX11_move_0 rfl (lv_at hl 0 rfl) ?_
  obtain ⟨p1, e1, hp1, h⟩ := ldP_ok h
  refine hr_getP C cf11 fH_RX11_19 hR aH_0 e1 dX11_move_1 ?_
  refine lv_iconst (v := (0 : Int32)) C.1 C.2.1 dX11_move_4 (by decide) ?_
  refine lv_iload_n C.1 C.2.1 dX11_move_5 rfl (lv_at hl 1 rfl) ?_
  obtain ⟨r2, S2, h2, h⟩ := ob2_ok h
  refine hr_Vi (v := r2) (S' := S2) (As := [.int (0 : Int32), .int x1]) (rest := []) C cf2 (c_X2_holds l E p1 (0 : Int32) x1 hp1 _ _ h2) yv_X2_holds lk_RX11_173 rfl hp1 rfl rfl hl.1 (Nat.le_of_ble_eq_true rfl) (by decide) (by decide) hR (ho_A hR) dX11_move_6 (fun H locs hR => ?_)
  refine lv_if_eq (tgt := 29) C.1 C.2.1 dX11_move_9 (by decide) (fun hc => ?_) (fun hc => ?_)
  · replace h := if_t h hc
    exact w_X11_move_29 C S2 h _ _ _ hR (lv_sub hl [0] rfl)
  · replace h := if_f h hc
    refine lv_aload_n C.1 C.2.1 dX11_move_12 rfl (lv_at hl 0 rfl) ?_
    obtain ⟨p3, e3, hp3, h⟩ := ldP_ok h
    refine hr_getP C cf11 fH_RX11_19 hR aH_0 e3 dX11_move_13 ?_
    refine lv_iconst (v := (0 : Int32)) C.1 C.2.1 dX11_move_16 (by decide) ?_
    refine lv_iload_n C.1 C.2.1 dX11_move_17 rfl (lv_at hl 2 rfl) ?_
    obtain ⟨r4, S4, h4, h⟩ := ob2_ok h
    refine hr_Vi (v := r4) (S' := S4) (As := [.int (0 : Int32), .int x2]) (rest := []) C cf2 (c_X2_holds l E p3 (0 : Int32) x2 hp3 _ _ h4) yv_X2_holds lk_RX11_173 rfl hp3 rfl rfl hl.1 (Nat.le_of_ble_eq_true rfl) (by decide) (by decide) hR (ho_A hR) dX11_move_18 (fun H locs hR => ?_)
    refine lv_if_eq (tgt := 29) C.1 C.2.1 dX11_move_21 (by decide) (fun hc => ?_) (fun hc => ?_)
    · replace h := if_t h hc
      exact w_X11_move_29 C S4 h _ _ _ hR (lv_sub hl [0] rfl)
    · replace h := if_f h hc
      refine lv_iload_n C.1 C.2.1 dX11_move_24 rfl (lv_at hl 1 rfl) ?_
      refine lv_iload_n C.1 C.2.1 dX11_move_25 rfl (lv_at hl 2 rfl) ?_
      refine lv_icmp_ne (tgt := 35) C.1 C.2.1 dX11_move_26 (by decide) (fun hc => ?_) (fun hc => ?_)
      · replace h := if_f h hc
        refine lv_iload_n C.1 C.2.1 dX11_move_35 rfl (lv_at hl 3 rfl) ?_
        refine lv_iconst (v := (1 : Int32)) C.1 C.2.1 dX11_move_36 (by decide) ?_
        refine lv_icmp_lt (tgt := 70) C.1 C.2.1 dX11_move_37 (by decide) (fun hc => ?_) (fun hc => ?_)
        · replace h := if_t h hc
          exact w_X11_move_70 C S4 h _ _ _ hR (lv_sub hl [0] rfl)
        · replace h := if_f h hc
          refine lv_iload_n C.1 C.2.1 dX11_move_40 rfl (lv_at hl 3 rfl) ?_
          refine lv_aload_n C.1 C.2.1 dX11_move_41 rfl (lv_at hl 0 rfl) ?_
          refine ho_getR (a' := 1200) C cf11 fH_RX11_79 hR aH_0 rfl dX11_move_42 ?_
          refine ho_getR (a' := 1201) C cf9 fH_RX11_181 hR aH_1200 rfl dX11_move_45 ?_
          refine lv_iload_n C.1 C.2.1 dX11_move_48 rfl (lv_at hl 1 rfl) ?_
          obtain ⟨v5, e5, hi5, h⟩ := ldI_ok h
          refine hr_ild C hR aH_1201 hi5 e5 dX11_move_49 ?_
          refine lv_icmp_gt (tgt := 70) C.1 C.2.1 dX11_move_50 (by decide) (fun hc => ?_) (fun hc => ?_)
          · replace h := if_t h hc
            exact w_X11_move_70 C S4 h _ _ _ hR (lv_sub hl [0] rfl)
          · replace h := if_f h hc
            refine lv_iload_n C.1 C.2.1 dX11_move_53 rfl (lv_at hl 3 rfl) ?_
            refine lv_sipush (v := (9999 : Int32)) C.1 C.2.1 dX11_move_54 (by decide) ?_
            refine lv_aload_n C.1 C.2.1 dX11_move_57 rfl (lv_at hl 0 rfl) ?_
            refine ho_getR (a' := 1200) C cf11 fH_RX11_79 hR aH_0 rfl dX11_move_58 ?_
            refine ho_getR (a' := 1201) C cf9 fH_RX11_181 hR aH_1200 rfl dX11_move_61 ?_
            refine lv_iload_n C.1 C.2.1 dX11_move_64 rfl (lv_at hl 2 rfl) ?_
            obtain ⟨v6, e6, hi6, h⟩ := ldI_ok h
            refine hr_ild C hR aH_1201 hi6 e6 dX11_move_65 ?_
            refine lv_isub C.1 C.2.1 dX11_move_66 ?_
            refine lv_icmp_le (tgt := 76) C.1 C.2.1 dX11_move_67 (by decide) (fun hc => ?_) (fun hc => ?_)
            · replace h := if_t h hc
              refine lv_aload_n C.1 C.2.1 dX11_move_76 rfl (lv_at hl 0 rfl) ?_
              obtain ⟨S7, h7, h⟩ := ob_ok h
              refine hr_Vv (S' := S7) (As := []) (rest := []) C cf11 (c_X11_remember l E _ _ h7) yv_X11_remember lk_RX11_304 rfl aH_0 rfl rfl hl.1 (Nat.le_of_ble_eq_true rfl) (by decide) (by decide) hR (ho_A hR) dX11_move_77 (fun H locs hR => ?_)
              refine lv_aload_n C.1 C.2.1 dX11_move_80 rfl (lv_at hl 0 rfl) ?_
              refine ho_getR (a' := 1200) C cf11 fH_RX11_79 hR aH_0 rfl dX11_move_81 ?_
              refine ho_getR (a' := 1201) C cf9 fH_RX11_181 hR aH_1200 rfl dX11_move_84 ?_
              refine lv_iload_n C.1 C.2.1 dX11_move_87 rfl (lv_at hl 1 rfl) ?_
              refine lv_dup2_11 C.1 C.2.1 dX11_move_88 rfl rfl ?_
              obtain ⟨v8, e8, hi8, h⟩ := ldI_ok h
              refine hr_ild C hR aH_1201 hi8 e8 dX11_move_89 ?_
              refine lv_iload_n C.1 C.2.1 dX11_move_90 rfl (lv_at hl 3 rfl) ?_
              refine lv_isub C.1 C.2.1 dX11_move_91 ?_
              obtain ⟨S9, e9, hi9, h⟩ := stI_ok h
              refine hr_ist C hR aH_1201 hi9 e9 dX11_move_92 (fun H locs hR => ?_)
              refine lv_aload_n C.1 C.2.1 dX11_move_93 rfl (lv_at hl 0 rfl) ?_
              refine ho_getR (a' := 1200) C cf11 fH_RX11_79 hR aH_0 rfl dX11_move_94 ?_
              refine ho_getR (a' := 1201) C cf9 fH_RX11_181 hR aH_1200 rfl dX11_move_97 ?_
              refine lv_iload_n C.1 C.2.1 dX11_move_100 rfl (lv_at hl 2 rfl) ?_
              refine lv_dup2_11 C.1 C.2.1 dX11_move_101 rfl rfl ?_
              obtain ⟨v10, e10, hi10, h⟩ := ldI_ok h
              refine hr_ild C hR aH_1201 hi10 e10 dX11_move_102 ?_
              refine lv_iload_n C.1 C.2.1 dX11_move_103 rfl (lv_at hl 3 rfl) ?_
              refine lv_iadd C.1 C.2.1 dX11_move_104 ?_
              obtain ⟨S11, e11, hi11, h⟩ := stI_ok h
              refine hr_ist C hR aH_1201 hi11 e11 dX11_move_105 (fun H locs hR => ?_)
              refine lv_iconst (v := (1 : Int32)) C.1 C.2.1 dX11_move_106 (by decide) ?_
              exact ho_zret C hR (Or.inr rfl) h dX11_move_107
            · replace h := if_f h hc
              exact w_X11_move_70 C S4 h _ _ _ hR (lv_sub hl [0] rfl)
      · replace h := if_t h hc
        exact w_X11_move_29 C S4 h _ _ _ hR (lv_sub hl [0] rfl)
theorem dX11_canPass_0 : decode cX11_canPass 0 = .ok (.aload_n 0, 1) := by decide +kernel
theorem dX11_canPass_1 : decode cX11_canPass 1 = .ok (.getfield 94, 3) := by decide +kernel
theorem dX11_canPass_4 : decode cX11_canPass 4 = .ok (.ifCond .eq 33, 3) := by decide +kernel
theorem dX11_canPass_7 : decode cX11_canPass 7 = .ok (.iload_n 1, 1) := by decide +kernel
theorem dX11_canPass_8 : decode cX11_canPass 8 = .ok (.iconst 1, 1) := by decide +kernel
theorem dX11_canPass_9 : decode cX11_canPass 9 = .ok (.if_icmp .lt 28, 3) := by decide +kernel
theorem dX11_canPass_12 : decode cX11_canPass 12 = .ok (.iload_n 1, 1) := by decide +kernel
theorem dX11_canPass_13 : decode cX11_canPass 13 = .ok (.bipush 100, 2) := by decide +kernel
theorem dX11_canPass_15 : decode cX11_canPass 15 = .ok (.if_icmp .gt 22, 3) := by decide +kernel
theorem dX11_canPass_18 : decode cX11_canPass 18 = .ok (.aload_n 0, 1) := by decide +kernel
theorem dX11_canPass_19 : decode cX11_canPass 19 = .ok (.getfield 79, 3) := by decide +kernel
theorem dX11_canPass_22 : decode cX11_canPass 22 = .ok (.getfield 149, 3) := by decide +kernel
theorem dX11_canPass_25 : decode cX11_canPass 25 = .ok (.iload_n 1, 1) := by decide +kernel
theorem dX11_canPass_26 : decode cX11_canPass 26 = .ok (.iadd, 1) := by decide +kernel
theorem dX11_canPass_27 : decode cX11_canPass 27 = .ok (.sipush 999, 3) := by decide +kernel
theorem dX11_canPass_30 : decode cX11_canPass 30 = .ok (.if_icmp .gt 7, 3) := by decide +kernel
theorem dX11_canPass_33 : decode cX11_canPass 33 = .ok (.iconst 1, 1) := by decide +kernel
theorem dX11_canPass_34 : decode cX11_canPass 34 = .ok (.goto 4, 3) := by decide +kernel
theorem dX11_canPass_37 : decode cX11_canPass 37 = .ok (.iconst 0, 1) := by decide +kernel
theorem dX11_canPass_38 : decode cX11_canPass 38 = .ok (.ireturn, 1) := by decide +kernel
def f_X11_canPass (x1 : Int32) (S : Hp) : Option (Int32 × Hp) :=
  if (S.1 0 13) = 0 then some ((0 : Int32), S) else if x1 < (1 : Int32) then some ((0 : Int32), S) else if (100 : Int32) < x1 then some ((0 : Int32), S) else if (999 : Int32) < ((S.1 1200 0) + x1) then some ((0 : Int32), S) else some ((1 : Int32), S)
set_option maxHeartbeats 4000000 in
set_option maxRecDepth 100000 in
theorem c_X11_canPass (l : Launch) (E : Ev) (x1 : Int32) (S : Hp) (r : (Int32 × Hp)) (h : f_X11_canPass x1 S = some r) : ho_M l yH E yX11_canPass cX11_canPass 2 (some .boolean) 0 [.ref (E.2.1 0), .int x1] S (some (.int r.1), r.2) := by
  refine ho_in (by decide) (Nat.le_of_ble_eq_true rfl) ?_
  intro p e s m args below meth c C hR ls hl
  have C : ho_I p s m args meth c RX11 cX11_canPass 2 (some .boolean) := C
  have hl : lv_has ls 2 [(0, .ref (E.2.1 0)), (1, .int x1)] := hl
  unfold f_X11_canPass at h
  refine lv_aload_n C.1 C.2.1 dX11_canPass_0 rfl (lv_at hl 0 rfl) ?_
  refine ho_getI C cf11 fH_RX11_94 hR aH_0 dX11_canPass_1 ?_
  refine lv_if_eq (tgt := 37) C.1 C.2.1 dX11_canPass_4 (by decide) (fun hc => ?_) (fun hc => ?_)
  · replace h := if_t h hc
    refine lv_iconst (v := (0 : Int32)) C.1 C.2.1 dX11_canPass_37 (by decide) ?_
    exact ho_zret C hR (Or.inl rfl) h dX11_canPass_38
  · replace h := if_f h hc
    refine lv_iload_n C.1 C.2.1 dX11_canPass_7 rfl (lv_at hl 1 rfl) ?_
    refine lv_iconst (v := (1 : Int32)) C.1 C.2.1 dX11_canPass_8 (by decide) ?_
    refine lv_icmp_lt (tgt := 37) C.1 C.2.1 dX11_canPass_9 (by decide) (fun hc => ?_) (fun hc => ?_)
    · replace h := if_t h hc
      refine lv_iconst (v := (0 : Int32)) C.1 C.2.1 dX11_canPass_37 (by decide) ?_
      exact ho_zret C hR (Or.inl rfl) h dX11_canPass_38
    · replace h := if_f h hc
      refine lv_iload_n C.1 C.2.1 dX11_canPass_12 rfl (lv_at hl 1 rfl) ?_
      refine lv_bipush (v := (100 : Int32)) C.1 C.2.1 dX11_canPass_13 (by decide) ?_
      refine lv_icmp_gt (tgt := 37) C.1 C.2.1 dX11_canPass_15 (by decide) (fun hc => ?_) (fun hc => ?_)
      · replace h := if_t h hc
        refine lv_iconst (v := (0 : Int32)) C.1 C.2.1 dX11_canPass_37 (by decide) ?_
        exact ho_zret C hR (Or.inl rfl) h dX11_canPass_38
      · replace h := if_f h hc
        refine lv_aload_n C.1 C.2.1 dX11_canPass_18 rfl (lv_at hl 0 rfl) ?_
        refine ho_getR (a' := 1200) C cf11 fH_RX11_79 hR aH_0 rfl dX11_canPass_19 ?_
        refine ho_getI C cf9 fH_RX11_149 hR aH_1200 dX11_canPass_22 ?_
        refine lv_iload_n C.1 C.2.1 dX11_canPass_25 rfl (lv_at hl 1 rfl) ?_
        refine lv_iadd C.1 C.2.1 dX11_canPass_26 ?_
        refine lv_sipush (v := (999 : Int32)) C.1 C.2.1 dX11_canPass_27 (by decide) ?_
        refine lv_icmp_gt (tgt := 37) C.1 C.2.1 dX11_canPass_30 (by decide) (fun hc => ?_) (fun hc => ?_)
        · replace h := if_t h hc
          refine lv_iconst (v := (0 : Int32)) C.1 C.2.1 dX11_canPass_37 (by decide) ?_
          exact ho_zret C hR (Or.inl rfl) h dX11_canPass_38
        · replace h := if_f h hc
          refine lv_iconst (v := (1 : Int32)) C.1 C.2.1 dX11_canPass_33 (by decide) ?_
          refine lv_goto (tgt := 38) C.1 C.2.1 dX11_canPass_34 (by decide) ?_
          exact ho_zret C hR (Or.inr rfl) h dX11_canPass_38
theorem dX11_years_0 : decode cX11_years 0 = .ok (.aload_n 0, 1) := by decide +kernel
theorem dX11_years_1 : decode cX11_years 1 = .ok (.iload_n 1, 1) := by decide +kernel
theorem dX11_years_2 : decode cX11_years 2 = .ok (.invokevirtual 314, 3) := by decide +kernel
theorem dX11_years_5 : decode cX11_years 5 = .ok (.ifCond .ne 9, 3) := by decide +kernel
theorem dX11_years_8 : decode cX11_years 8 = .ok (.aload_n 0, 1) := by decide +kernel
theorem dX11_years_9 : decode cX11_years 9 = .ok (.iconst 3, 1) := by decide +kernel
theorem dX11_years_10 : decode cX11_years 10 = .ok (.invokevirtual 111, 3) := by decide +kernel
theorem dX11_years_13 : decode cX11_years 13 = .ok (.ireturn, 1) := by decide +kernel
theorem dX11_years_14 : decode cX11_years 14 = .ok (.aload_n 0, 1) := by decide +kernel
theorem dX11_years_15 : decode cX11_years 15 = .ok (.invokevirtual 304, 3) := by decide +kernel
theorem dX11_years_18 : decode cX11_years 18 = .ok (.iconst 0, 1) := by decide +kernel
theorem dX11_years_19 : decode cX11_years 19 = .ok (.istore_n 2, 1) := by decide +kernel
theorem dX11_years_20 : decode cX11_years 20 = .ok (.iconst 0, 1) := by decide +kernel
theorem dX11_years_21 : decode cX11_years 21 = .ok (.istore_n 3, 1) := by decide +kernel
theorem dX11_years_22 : decode cX11_years 22 = .ok (.iload_n 3, 1) := by decide +kernel
theorem dX11_years_23 : decode cX11_years 23 = .ok (.iload_n 1, 1) := by decide +kernel
theorem dX11_years_24 : decode cX11_years 24 = .ok (.if_icmp .ge 33, 3) := by decide +kernel
theorem dX11_years_27 : decode cX11_years 27 = .ok (.aload_n 0, 1) := by decide +kernel
theorem dX11_years_28 : decode cX11_years 28 = .ok (.getfield 49, 3) := by decide +kernel
theorem dX11_years_31 : decode cX11_years 31 = .ok (.aload_n 0, 1) := by decide +kernel
theorem dX11_years_32 : decode cX11_years 32 = .ok (.getfield 79, 3) := by decide +kernel
theorem dX11_years_35 : decode cX11_years 35 = .ok (.invokevirtual 317, 3) := by decide +kernel
theorem dX11_years_38 : decode cX11_years 38 = .ok (.aload_n 0, 1) := by decide +kernel
theorem dX11_years_39 : decode cX11_years 39 = .ok (.getfield 19, 3) := by decide +kernel
theorem dX11_years_42 : decode cX11_years 42 = .ok (.getfield 321, 3) := by decide +kernel
theorem dX11_years_45 : decode cX11_years 45 = .ok (.if_icmp .lt 6, 3) := by decide +kernel
theorem dX11_years_48 : decode cX11_years 48 = .ok (.iinc 2 1, 3) := by decide +kernel
theorem dX11_years_51 : decode cX11_years 51 = .ok (.iinc 3 1, 3) := by decide +kernel
theorem dX11_years_54 : decode cX11_years 54 = .ok (.goto (-32), 3) := by decide +kernel
theorem dX11_years_57 : decode cX11_years 57 = .ok (.iload_n 2, 1) := by decide +kernel
theorem dX11_years_58 : decode cX11_years 58 = .ok (.ireturn, 1) := by decide +kernel
def f_X11_years_51 (K22 : Int32 → Int32 → Int32 → Hp → Option (Int32 × Hp)) (x1 : Int32) (x2 : Int32) (x3 : Int32) (S : Hp) : Option (Int32 × Hp) :=
  le1 (x3 + (1 : Int32)) (fun v1 => K22 x1 x2 v1 S)
set_option maxHeartbeats 4000000 in
set_option maxRecDepth 100000 in
theorem w_X11_years_51 {p : Program} {l : Launch} {e : Env} {s : State} {m : MethodId} {args : Array Value} {below : List Frame} {meth : Method} {c : Code} {E : Ev} {S0 : Hp} {r : (Int32 × Hp)} (C : ho_I p s m args meth c RX11 cX11_years 4 (some .int)) (K22 : Int32 → Int32 → Int32 → Hp → Option (Int32 × Hp)) (hK22 : ∀ (y1 : Int32) (y2 : Int32) (y3 : Int32) (S : Hp), K22 y1 y2 y3 S = some r → ho_G p l e s m args below meth c yH E S0 6 4 (some (.int r.1), r.2) 22 [(0, .ref (E.2.1 0)), (1, .int y1), (2, .int y2), (3, .int y3)] [] S) :
    ∀ (x1 : Int32) (x2 : Int32) (x3 : Int32) (S : Hp), f_X11_years_51 K22 x1 x2 x3 S = some r → ho_G p l e s m args below meth c yH E S0 6 4 (some (.int r.1), r.2) 51 [(0, .ref (E.2.1 0)), (1, .int x1), (2, .int x2), (3, .int x3)] [] S := by
  intro x1 x2 x3 S h H locs ls hR hl
  unfold f_X11_years_51 at h
  obtain ⟨v1, e1, h⟩ := le1_ok h
  refine lv_iinc (v := v1) (lv' := [(3, .int v1), (0, .ref (E.2.1 0)), (1, .int x1), (2, .int x2)]) C.1 C.2.1 dX11_years_51 hl (k := 3) rfl (by rw [e1]; rfl) (by decide) rfl (fun ls hl => ?_)
  refine lv_goto (tgt := 22) C.1 C.2.1 dX11_years_54 (by decide) ?_
  exact hK22 x1 x2 v1 S h _ _ _ hR (lv_sub hl [1, 2, 3, 0] rfl)
def f_X11_years_22 : Nat → Int32 → Int32 → Int32 → Hp → Option (Int32 × Hp)
  | 0, _, _, _, _ => none
  | k + 1, x1, x2, x3, S => if x1 ≤ x3 then some (x2, S) else ob2 (f_X8_passYear 1200 S) (fun r1 S1 => ldP yH S1 0 1 2 (fun p2 => if r1 < (S1.1 p2 0) then f_X11_years_51 (f_X11_years_22 k) x1 x2 x3 S1 else le1 (x2 + (1 : Int32)) (fun v3 => f_X11_years_51 (f_X11_years_22 k) x1 v3 x3 S1)))
set_option maxHeartbeats 4000000 in
set_option maxRecDepth 100000 in
theorem w_X11_years_22 {p : Program} {l : Launch} {e : Env} {s : State} {m : MethodId} {args : Array Value} {below : List Frame} {meth : Method} {c : Code} {E : Ev} {S0 : Hp} {r : (Int32 × Hp)} (C : ho_I p s m args meth c RX11 cX11_years 4 (some .int)) :
    ∀ (k : Nat) (x1 : Int32) (x2 : Int32) (x3 : Int32) (S : Hp), f_X11_years_22 k x1 x2 x3 S = some r → ho_G p l e s m args below meth c yH E S0 6 4 (some (.int r.1), r.2) 22 [(0, .ref (E.2.1 0)), (1, .int x1), (2, .int x2), (3, .int x3)] [] S := by
  intro k
  induction k with
  | zero =>
    intro x1 x2 x3 S h
    exact absurd (show (none : Option (Int32 × Hp)) = some r from h) (by simp)
  | succ k ih =>
    intro x1 x2 x3 S h H locs ls hR hl
    rw [f_X11_years_22] at h
    refine lv_iload_n C.1 C.2.1 dX11_years_22 rfl (lv_at hl 3 rfl) ?_
    refine lv_iload_n C.1 C.2.1 dX11_years_23 rfl (lv_at hl 1 rfl) ?_
    refine lv_icmp_ge (tgt := 57) C.1 C.2.1 dX11_years_24 (by decide) (fun hc => ?_) (fun hc => ?_)
    · replace h := if_t h hc
      refine lv_iload_n C.1 C.2.1 dX11_years_57 rfl (lv_at hl 2 rfl) ?_
      exact ho_iret C hR h dX11_years_58
    · replace h := if_f h hc
      refine lv_aload_n C.1 C.2.1 dX11_years_27 rfl (lv_at hl 0 rfl) ?_
      refine ho_getR (a' := 50) C cf11 fH_RX11_49 hR aH_0 rfl dX11_years_28 ?_
      refine lv_aload_n C.1 C.2.1 dX11_years_31 rfl (lv_at hl 0 rfl) ?_
      refine ho_getR (a' := 1200) C cf11 fH_RX11_79 hR aH_0 rfl dX11_years_32 ?_
      obtain ⟨r1, S1, h1, h⟩ := ob2_ok h
      refine hr_Vi (v := r1) (S' := S1) (As := [.ref (E.2.1 1200)]) (rest := []) C cf8 (c_X8_passYear l E 1200 aH_1200 _ _ h1) yv_X8_passYear lk_RX11_317 rfl aH_50 rfl rfl hl.1 (Nat.le_of_ble_eq_true rfl) (by decide) (by decide) hR (ho_A hR) dX11_years_35 (fun H locs hR => ?_)
      refine lv_aload_n C.1 C.2.1 dX11_years_38 rfl (lv_at hl 0 rfl) ?_
      obtain ⟨p2, e2, hp2, h⟩ := ldP_ok h
      refine hr_getP C cf11 fH_RX11_19 hR aH_0 e2 dX11_years_39 ?_
      refine ho_getI C cf2 fH_RX11_321 hR hp2 dX11_years_42 ?_
      refine lv_icmp_lt (tgt := 51) C.1 C.2.1 dX11_years_45 (by decide) (fun hc => ?_) (fun hc => ?_)
      · replace h := if_t h hc
        exact w_X11_years_51 C (f_X11_years_22 k) ih x1 x2 x3 S1 h _ _ _ hR (lv_sub hl [0, 1, 2, 3] rfl)
      · replace h := if_f h hc
        obtain ⟨v3, e3, h⟩ := le1_ok h
        refine lv_iinc (v := v3) (lv' := [(2, .int v3), (0, .ref (E.2.1 0)), (1, .int x1), (3, .int x3)]) C.1 C.2.1 dX11_years_48 hl (k := 2) rfl (by rw [e3]; rfl) (by decide) rfl (fun ls hl => ?_)
        exact w_X11_years_51 C (f_X11_years_22 k) ih x1 v3 x3 S1 h _ _ _ hR (lv_sub hl [1, 2, 0, 3] rfl)
def f_X11_years (x1 : Int32) (S : Hp) : Option (Int32 × Hp) :=
  ob2 (f_X11_canPass x1 S) (fun r1 S1 => if r1 = 0 then ob2 (f_X11_refuse (3 : Int32) S1) (fun r3 S3 => some (r3, S3)) else ob (f_X11_remember S1) (fun S2 => f_X11_years_22 5000 x1 (0 : Int32) (0 : Int32) S2))
set_option maxHeartbeats 4000000 in
set_option maxRecDepth 100000 in
theorem c_X11_years (l : Launch) (E : Ev) (x1 : Int32) (S : Hp) (r : (Int32 × Hp)) (h : f_X11_years x1 S = some r) : ho_M l yH E yX11_years cX11_years 4 (some .int) 6 [.ref (E.2.1 0), .int x1] S (some (.int r.1), r.2) := by
  refine ho_in (by decide) (Nat.le_of_ble_eq_true rfl) ?_
  intro p e s m args below meth c C hR ls hl
  have C : ho_I p s m args meth c RX11 cX11_years 4 (some .int) := C
  have hl : lv_has ls 4 [(0, .ref (E.2.1 0)), (1, .int x1)] := hl
  unfold f_X11_years at h
  refine lv_aload_n C.1 C.2.1 dX11_years_0 rfl (lv_at hl 0 rfl) ?_
  refine lv_iload_n C.1 C.2.1 dX11_years_1 rfl (lv_at hl 1 rfl) ?_
  obtain ⟨r1, S1, h1, h⟩ := ob2_ok h
  refine hr_Vi (v := r1) (S' := S1) (As := [.int x1]) (rest := []) C cf11 (c_X11_canPass l E x1 _ _ h1) yv_X11_canPass lk_RX11_314 rfl aH_0 rfl rfl hl.1 (Nat.le_of_ble_eq_true rfl) (by decide) (by decide) hR (ho_A hR) dX11_years_2 (fun H locs hR => ?_)
  refine lv_if_ne (tgt := 14) C.1 C.2.1 dX11_years_5 (by decide) (fun hc => ?_) (fun hc => ?_)
  · replace h := if_f h hc
    refine lv_aload_n C.1 C.2.1 dX11_years_14 rfl (lv_at hl 0 rfl) ?_
    obtain ⟨S2, h2, h⟩ := ob_ok h
    refine hr_Vv (S' := S2) (As := []) (rest := []) C cf11 (c_X11_remember l E _ _ h2) yv_X11_remember lk_RX11_304 rfl aH_0 rfl rfl hl.1 (Nat.le_of_ble_eq_true rfl) (by decide) (by decide) hR (ho_A hR) dX11_years_15 (fun H locs hR => ?_)
    refine lv_iconst (v := (0 : Int32)) C.1 C.2.1 dX11_years_18 (by decide) ?_
    refine lv_istore_n (lv' := [(2, .int (0 : Int32)), (0, .ref (E.2.1 0)), (1, .int x1)]) C.1 C.2.1 dX11_years_19 rfl hl (by decide) rfl (fun ls hl => ?_)
    refine lv_iconst (v := (0 : Int32)) C.1 C.2.1 dX11_years_20 (by decide) ?_
    refine lv_istore_n (lv' := [(3, .int (0 : Int32)), (2, .int (0 : Int32)), (0, .ref (E.2.1 0)), (1, .int x1)]) C.1 C.2.1 dX11_years_21 rfl hl (by decide) rfl (fun ls hl => ?_)
    exact w_X11_years_22 C 5000 x1 (0 : Int32) (0 : Int32) S2 h _ _ _ hR (lv_sub hl [2, 3, 1, 0] rfl)
  · replace h := if_t h hc
    refine lv_aload_n C.1 C.2.1 dX11_years_8 rfl (lv_at hl 0 rfl) ?_
    refine lv_iconst (v := (3 : Int32)) C.1 C.2.1 dX11_years_9 (by decide) ?_
    obtain ⟨r3, S3, h3, h⟩ := ob2_ok h
    refine hr_Vi (v := r3) (S' := S3) (As := [.int (3 : Int32)]) (rest := []) C cf11 (c_X11_refuse l E (3 : Int32) _ _ h3) yv_X11_refuse lk_RX11_111 rfl aH_0 rfl rfl hl.1 (Nat.le_of_ble_eq_true rfl) (by decide) (by decide) hR (ho_A hR) dX11_years_10 (fun H locs hR => ?_)
    exact ho_iret C hR h dX11_years_13
theorem dX11_draw_0 : decode cX11_draw 0 = .ok (.aload_n 0, 1) := by decide +kernel
theorem dX11_draw_1 : decode cX11_draw 1 = .ok (.ldc2_w 374, 3) := by decide +kernel
theorem dX11_draw_4 : decode cX11_draw 4 = .ok (.aload_n 0, 1) := by decide +kernel
theorem dX11_draw_5 : decode cX11_draw 5 = .ok (.getfield 105, 3) := by decide +kernel
theorem dX11_draw_8 : decode cX11_draw 8 = .ok (.i2l, 1) := by decide +kernel
theorem dX11_draw_9 : decode cX11_draw 9 = .ok (.lmul, 1) := by decide +kernel
theorem dX11_draw_10 : decode cX11_draw 10 = .ok (.ldc2_w 376, 3) := by decide +kernel
theorem dX11_draw_13 : decode cX11_draw 13 = .ok (.ladd, 1) := by decide +kernel
theorem dX11_draw_14 : decode cX11_draw 14 = .ok (.ldc2_w 378, 3) := by decide +kernel
theorem dX11_draw_17 : decode cX11_draw 17 = .ok (.land, 1) := by decide +kernel
theorem dX11_draw_18 : decode cX11_draw 18 = .ok (.l2i, 1) := by decide +kernel
theorem dX11_draw_19 : decode cX11_draw 19 = .ok (.putfield 105, 3) := by decide +kernel
theorem dX11_draw_22 : decode cX11_draw 22 = .ok (.iload_n 1, 1) := by decide +kernel
theorem dX11_draw_23 : decode cX11_draw 23 = .ok (.ifCond .le 15, 3) := by decide +kernel
theorem dX11_draw_26 : decode cX11_draw 26 = .ok (.aload_n 0, 1) := by decide +kernel
theorem dX11_draw_27 : decode cX11_draw 27 = .ok (.getfield 105, 3) := by decide +kernel
theorem dX11_draw_30 : decode cX11_draw 30 = .ok (.bipush 64, 2) := by decide +kernel
theorem dX11_draw_32 : decode cX11_draw 32 = .ok (.idiv, 1) := by decide +kernel
theorem dX11_draw_33 : decode cX11_draw 33 = .ok (.iload_n 1, 1) := by decide +kernel
theorem dX11_draw_34 : decode cX11_draw 34 = .ok (.irem, 1) := by decide +kernel
theorem dX11_draw_35 : decode cX11_draw 35 = .ok (.goto 4, 3) := by decide +kernel
theorem dX11_draw_38 : decode cX11_draw 38 = .ok (.iconst 0, 1) := by decide +kernel
theorem dX11_draw_39 : decode cX11_draw 39 = .ok (.ireturn, 1) := by decide +kernel
def f_X11_draw (x1 : Int32) (S : Hp) : Option (Int32 × Hp) :=
  le1 (ho_sI S 0 16 (((((1103515245 : Int64) * ((S.1 0 16).toInt64)) + (12345 : Int64)) &&& (2147483647 : Int64)).toInt32)) (fun S1 => if x1 ≤ 0 then some ((0 : Int32), S1) else nz x1 (some ((((S1.1 0 16) / (64 : Int32)) - ((S1.1 0 16) / (64 : Int32)) / x1 * x1), S1)))
set_option maxHeartbeats 4000000 in
set_option maxRecDepth 100000 in
theorem c_X11_draw (l : Launch) (E : Ev) (x1 : Int32) (S : Hp) (r : (Int32 × Hp)) (h : f_X11_draw x1 S = some r) : ho_M l yH E yX11_draw cX11_draw 2 (some .int) 0 [.ref (E.2.1 0), .int x1] S (some (.int r.1), r.2) := by
  refine ho_in (by decide) (Nat.le_of_ble_eq_true rfl) ?_
  intro p e s m args below meth c C hR ls hl
  have C : ho_I p s m args meth c RX11 cX11_draw 2 (some .int) := C
  have hl : lv_has ls 2 [(0, .ref (E.2.1 0)), (1, .int x1)] := hl
  unfold f_X11_draw at h
  refine lv_aload_n C.1 C.2.1 dX11_draw_0 rfl (lv_at hl 0 rfl) ?_
  refine lv_ldc2 (v := (1103515245 : Int64)) C.1 C.2.1 C.2.2.2.2.1 (C.2.2.2.2.2.1 _ kc_RX11_374) dX11_draw_1 ?_
  refine lv_aload_n C.1 C.2.1 dX11_draw_4 rfl (lv_at hl 0 rfl) ?_
  refine ho_getI C cf11 fH_RX11_105 hR aH_0 dX11_draw_5 ?_
  refine lv_i2l (v := ((S.1 0 16).toInt64)) C.1 C.2.1 dX11_draw_8 rfl ?_
  refine lv_lmul C.1 C.2.1 dX11_draw_9 ?_
  refine lv_ldc2 (v := (12345 : Int64)) C.1 C.2.1 C.2.2.2.2.1 (C.2.2.2.2.2.1 _ kc_RX11_376) dX11_draw_10 ?_
  refine lv_ladd C.1 C.2.1 dX11_draw_13 ?_
  refine lv_ldc2 (v := (2147483647 : Int64)) C.1 C.2.1 C.2.2.2.2.1 (C.2.2.2.2.2.1 _ kc_RX11_378) dX11_draw_14 ?_
  refine lv_land C.1 C.2.1 dX11_draw_17 ?_
  refine lv_l2i (v := (((((1103515245 : Int64) * ((S.1 0 16).toInt64)) + (12345 : Int64)) &&& (2147483647 : Int64)).toInt32)) C.1 C.2.1 dX11_draw_18 rfl ?_
  obtain ⟨S1, e1, h⟩ := le1_ok h
  refine hr_putI C cf11 fH_RX11_105 hR aH_0 e1 dX11_draw_19 (fun H locs hR => ?_)
  refine lv_iload_n C.1 C.2.1 dX11_draw_22 rfl (lv_at hl 1 rfl) ?_
  refine lv_if_le (tgt := 38) C.1 C.2.1 dX11_draw_23 (by decide) (fun hc => ?_) (fun hc => ?_)
  · replace h := if_t h hc
    refine lv_iconst (v := (0 : Int32)) C.1 C.2.1 dX11_draw_38 (by decide) ?_
    exact ho_iret C hR h dX11_draw_39
  · replace h := if_f h hc
    refine lv_aload_n C.1 C.2.1 dX11_draw_26 rfl (lv_at hl 0 rfl) ?_
    refine ho_getI C cf11 fH_RX11_105 hR aH_0 dX11_draw_27 ?_
    refine lv_bipush (v := (64 : Int32)) C.1 C.2.1 dX11_draw_30 (by decide) ?_
    refine lv_idiv C.1 C.2.1 dX11_draw_32 (by decide) ?_
    refine lv_iload_n C.1 C.2.1 dX11_draw_33 rfl (lv_at hl 1 rfl) ?_
    obtain ⟨hz2, h⟩ := nz_ok h
    refine lv_irem C.1 C.2.1 dX11_draw_34 hz2 ?_
    refine lv_goto (tgt := 39) C.1 C.2.1 dX11_draw_35 (by decide) ?_
    exact ho_iret C hR h dX11_draw_39
theorem dX11_boyTells_0 : decode cX11_boyTells 0 = .ok (.aload_n 0, 1) := by decide +kernel
theorem dX11_boyTells_1 : decode cX11_boyTells 1 = .ok (.getfield 19, 3) := by decide +kernel
theorem dX11_boyTells_4 : decode cX11_boyTells 4 = .ok (.getfield 146, 3) := by decide +kernel
theorem dX11_boyTells_7 : decode cX11_boyTells 7 = .ok (.iconst 1, 1) := by decide +kernel
theorem dX11_boyTells_8 : decode cX11_boyTells 8 = .ok (.iaload, 1) := by decide +kernel
theorem dX11_boyTells_9 : decode cX11_boyTells 9 = .ok (.istore_n 1, 1) := by decide +kernel
theorem dX11_boyTells_10 : decode cX11_boyTells 10 = .ok (.aload_n 0, 1) := by decide +kernel
theorem dX11_boyTells_11 : decode cX11_boyTells 11 = .ok (.bipush 100, 2) := by decide +kernel
theorem dX11_boyTells_13 : decode cX11_boyTells 13 = .ok (.invokevirtual 362, 3) := by decide +kernel
theorem dX11_boyTells_16 : decode cX11_boyTells 16 = .ok (.aload_n 0, 1) := by decide +kernel
theorem dX11_boyTells_17 : decode cX11_boyTells 17 = .ok (.getfield 19, 3) := by decide +kernel
theorem dX11_boyTells_20 : decode cX11_boyTells 20 = .ok (.getfield 365, 3) := by decide +kernel
theorem dX11_boyTells_23 : decode cX11_boyTells 23 = .ok (.if_icmp .ge 7, 3) := by decide +kernel
theorem dX11_boyTells_26 : decode cX11_boyTells 26 = .ok (.iload_n 1, 1) := by decide +kernel
theorem dX11_boyTells_27 : decode cX11_boyTells 27 = .ok (.ifCond .ne 5, 3) := by decide +kernel
theorem dX11_boyTells_30 : decode cX11_boyTells 30 = .ok (.iconst 0, 1) := by decide +kernel
theorem dX11_boyTells_31 : decode cX11_boyTells 31 = .ok (.ireturn, 1) := by decide +kernel
theorem dX11_boyTells_32 : decode cX11_boyTells 32 = .ok (.aload_n 0, 1) := by decide +kernel
theorem dX11_boyTells_33 : decode cX11_boyTells 33 = .ok (.iload_n 1, 1) := by decide +kernel
theorem dX11_boyTells_34 : decode cX11_boyTells 34 = .ok (.invokevirtual 362, 3) := by decide +kernel
theorem dX11_boyTells_37 : decode cX11_boyTells 37 = .ok (.istore_n 2, 1) := by decide +kernel
theorem dX11_boyTells_38 : decode cX11_boyTells 38 = .ok (.aload_n 0, 1) := by decide +kernel
theorem dX11_boyTells_39 : decode cX11_boyTells 39 = .ok (.getfield 79, 3) := by decide +kernel
theorem dX11_boyTells_42 : decode cX11_boyTells 42 = .ok (.getfield 202, 3) := by decide +kernel
theorem dX11_boyTells_45 : decode cX11_boyTells 45 = .ok (.iload_n 2, 1) := by decide +kernel
theorem dX11_boyTells_46 : decode cX11_boyTells 46 = .ok (.sipush 999, 3) := by decide +kernel
theorem dX11_boyTells_49 : decode cX11_boyTells 49 = .ok (.aload_n 0, 1) := by decide +kernel
theorem dX11_boyTells_50 : decode cX11_boyTells 50 = .ok (.getfield 79, 3) := by decide +kernel
theorem dX11_boyTells_53 : decode cX11_boyTells 53 = .ok (.getfield 202, 3) := by decide +kernel
theorem dX11_boyTells_56 : decode cX11_boyTells 56 = .ok (.iload_n 2, 1) := by decide +kernel
theorem dX11_boyTells_57 : decode cX11_boyTells 57 = .ok (.iaload, 1) := by decide +kernel
theorem dX11_boyTells_58 : decode cX11_boyTells 58 = .ok (.bipush 50, 2) := by decide +kernel
theorem dX11_boyTells_60 : decode cX11_boyTells 60 = .ok (.iadd, 1) := by decide +kernel
theorem dX11_boyTells_61 : decode cX11_boyTells 61 = .ok (.invokestatic 368, 3) := by decide +kernel
theorem dX11_boyTells_64 : decode cX11_boyTells 64 = .ok (.iastore, 1) := by decide +kernel
theorem dX11_boyTells_65 : decode cX11_boyTells 65 = .ok (.iconst 1, 1) := by decide +kernel
theorem dX11_boyTells_66 : decode cX11_boyTells 66 = .ok (.ireturn, 1) := by decide +kernel
def f_X11_boyTells (S : Hp) : Option (Int32 × Hp) :=
  ldP yH S 0 1 2 (fun p1 => ldI S (p1 + 1) 3 (1 : Int32) (fun v2 => ob2 (f_X11_draw (100 : Int32) S) (fun r3 S3 => ldP yH S3 0 1 2 (fun p4 => if (S3.1 p4 4) ≤ r3 then some ((0 : Int32), S3) else if v2 = 0 then some ((0 : Int32), S3) else ob2 (f_X11_draw v2 S3) (fun r5 S5 => ldI S5 1203 6 r5 (fun v6 => ob2 (f_J9_min_7cf53 (999 : Int32) (v6 + (50 : Int32)) S5) (fun r7 S7 => stI S7 1203 6 r5 r7 (fun S8 => some ((1 : Int32), S8)))))))))
set_option maxHeartbeats 4000000 in
set_option maxRecDepth 100000 in
theorem c_X11_boyTells (l : Launch) (E : Ev) (S : Hp) (r : (Int32 × Hp)) (h : f_X11_boyTells S = some r) : ho_M l yH E yX11_boyTells cX11_boyTells 3 (some .boolean) 1 [.ref (E.2.1 0)] S (some (.int r.1), r.2) := by
  refine ho_in (by decide) (Nat.le_of_ble_eq_true rfl) ?_
  intro p e s m args below meth c C hR ls hl
  have C : ho_I p s m args meth c RX11 cX11_boyTells 3 (some .boolean) := C
  have hl : lv_has ls 3 [(0, .ref (E.2.1 0))] := hl
  unfold f_X11_boyTells at h
  refine lv_aload_n C.1 C.2.1 dX11_boyTells_0 rfl (lv_at hl 0 rfl) ?_
  obtain ⟨p1, e1, hp1, h⟩ := ldP_ok h
  refine hr_getP C cf11 fH_RX11_19 hR aH_0 e1 dX11_boyTells_1 ?_
  refine ho_getR (a' := (p1 + 1)) C cf2 fH_RX11_146 hR hp1 (pH_2_5 hp1.2) dX11_boyTells_4 ?_
  refine lv_iconst (v := (1 : Int32)) C.1 C.2.1 dX11_boyTells_7 (by decide) ?_
  obtain ⟨v2, e2, hi2, h⟩ := ldI_ok h
  refine hr_ild C hR (rH_2_1 hp1) hi2 e2 dX11_boyTells_8 ?_
  refine lv_istore_n (lv' := [(1, .int v2), (0, .ref (E.2.1 0))]) C.1 C.2.1 dX11_boyTells_9 rfl hl (by decide) rfl (fun ls hl => ?_)
  refine lv_aload_n C.1 C.2.1 dX11_boyTells_10 rfl (lv_at hl 1 rfl) ?_
  refine lv_bipush (v := (100 : Int32)) C.1 C.2.1 dX11_boyTells_11 (by decide) ?_
  obtain ⟨r3, S3, h3, h⟩ := ob2_ok h
  refine hr_Vi (v := r3) (S' := S3) (As := [.int (100 : Int32)]) (rest := []) C cf11 (c_X11_draw l E (100 : Int32) _ _ h3) yv_X11_draw lk_RX11_362 rfl aH_0 rfl rfl hl.1 (Nat.le_of_ble_eq_true rfl) (by decide) (by decide) hR (ho_A hR) dX11_boyTells_13 (fun H locs hR => ?_)
  refine lv_aload_n C.1 C.2.1 dX11_boyTells_16 rfl (lv_at hl 1 rfl) ?_
  obtain ⟨p4, e4, hp4, h⟩ := ldP_ok h
  refine hr_getP C cf11 fH_RX11_19 hR aH_0 e4 dX11_boyTells_17 ?_
  refine ho_getI C cf2 fH_RX11_365 hR hp4 dX11_boyTells_20 ?_
  refine lv_icmp_ge (tgt := 30) C.1 C.2.1 dX11_boyTells_23 (by decide) (fun hc => ?_) (fun hc => ?_)
  · replace h := if_t h hc
    refine lv_iconst (v := (0 : Int32)) C.1 C.2.1 dX11_boyTells_30 (by decide) ?_
    exact ho_zret C hR (Or.inl rfl) h dX11_boyTells_31
  · replace h := if_f h hc
    refine lv_iload_n C.1 C.2.1 dX11_boyTells_26 rfl (lv_at hl 0 rfl) ?_
    refine lv_if_ne (tgt := 32) C.1 C.2.1 dX11_boyTells_27 (by decide) (fun hc => ?_) (fun hc => ?_)
    · replace h := if_f h hc
      refine lv_aload_n C.1 C.2.1 dX11_boyTells_32 rfl (lv_at hl 1 rfl) ?_
      refine lv_iload_n C.1 C.2.1 dX11_boyTells_33 rfl (lv_at hl 0 rfl) ?_
      obtain ⟨r5, S5, h5, h⟩ := ob2_ok h
      refine hr_Vi (v := r5) (S' := S5) (As := [.int v2]) (rest := []) C cf11 (c_X11_draw l E v2 _ _ h5) yv_X11_draw lk_RX11_362 rfl aH_0 rfl rfl hl.1 (Nat.le_of_ble_eq_true rfl) (by decide) (by decide) hR (ho_A hR) dX11_boyTells_34 (fun H locs hR => ?_)
      refine lv_istore_n (lv' := [(2, .int r5), (1, .int v2), (0, .ref (E.2.1 0))]) C.1 C.2.1 dX11_boyTells_37 rfl hl (by decide) rfl (fun ls hl => ?_)
      refine lv_aload_n C.1 C.2.1 dX11_boyTells_38 rfl (lv_at hl 2 rfl) ?_
      refine ho_getR (a' := 1200) C cf11 fH_RX11_79 hR aH_0 rfl dX11_boyTells_39 ?_
      refine ho_getR (a' := 1203) C cf9 fH_RX11_202 hR aH_1200 rfl dX11_boyTells_42 ?_
      refine lv_iload_n C.1 C.2.1 dX11_boyTells_45 rfl (lv_at hl 0 rfl) ?_
      refine lv_sipush (v := (999 : Int32)) C.1 C.2.1 dX11_boyTells_46 (by decide) ?_
      refine lv_aload_n C.1 C.2.1 dX11_boyTells_49 rfl (lv_at hl 2 rfl) ?_
      refine ho_getR (a' := 1200) C cf11 fH_RX11_79 hR aH_0 rfl dX11_boyTells_50 ?_
      refine ho_getR (a' := 1203) C cf9 fH_RX11_202 hR aH_1200 rfl dX11_boyTells_53 ?_
      refine lv_iload_n C.1 C.2.1 dX11_boyTells_56 rfl (lv_at hl 0 rfl) ?_
      obtain ⟨v6, e6, hi6, h⟩ := ldI_ok h
      refine hr_ild C hR aH_1203 hi6 e6 dX11_boyTells_57 ?_
      refine lv_bipush (v := (50 : Int32)) C.1 C.2.1 dX11_boyTells_58 (by decide) ?_
      refine lv_iadd C.1 C.2.1 dX11_boyTells_60 ?_
      obtain ⟨r7, S7, h7, h⟩ := ob2_ok h
      refine hr_Si (v := r7) (S' := S7) (As := [.int (999 : Int32), .int (v6 + (50 : Int32))]) (rest := [.int r5, .ref (E.2.1 1203)]) C (c_J9_min_7cf53 l E (999 : Int32) (v6 + (50 : Int32)) _ _ h7) ys_J9_min_7cf53 lk_RX11_368 rfl rfl hl.1 (Nat.le_of_ble_eq_true rfl) (by decide) (by decide) hR (ho_A hR) dX11_boyTells_61 (fun H locs hR => ?_)
      obtain ⟨S8, e8, hi8, h⟩ := stI_ok h
      refine hr_ist C hR aH_1203 hi8 e8 dX11_boyTells_64 (fun H locs hR => ?_)
      refine lv_iconst (v := (1 : Int32)) C.1 C.2.1 dX11_boyTells_65 (by decide) ?_
      exact ho_zret C hR (Or.inr rfl) h dX11_boyTells_66
    · replace h := if_t h hc
      refine lv_iconst (v := (0 : Int32)) C.1 C.2.1 dX11_boyTells_30 (by decide) ?_
      exact ho_zret C hR (Or.inl rfl) h dX11_boyTells_31
theorem dX11_chance_0 : decode cX11_chance 0 = .ok (.aload_n 0, 1) := by decide +kernel
theorem dX11_chance_1 : decode cX11_chance 1 = .ok (.iload_n 1, 1) := by decide +kernel
theorem dX11_chance_2 : decode cX11_chance 2 = .ok (.invokevirtual 314, 3) := by decide +kernel
theorem dX11_chance_5 : decode cX11_chance 5 = .ok (.ifCond .ne 9, 3) := by decide +kernel
theorem dX11_chance_8 : decode cX11_chance 8 = .ok (.aload_n 0, 1) := by decide +kernel
theorem dX11_chance_9 : decode cX11_chance 9 = .ok (.iconst 3, 1) := by decide +kernel
theorem dX11_chance_10 : decode cX11_chance 10 = .ok (.invokevirtual 111, 3) := by decide +kernel
theorem dX11_chance_13 : decode cX11_chance 13 = .ok (.ireturn, 1) := by decide +kernel
theorem dX11_chance_14 : decode cX11_chance 14 = .ok (.aload_n 0, 1) := by decide +kernel
theorem dX11_chance_15 : decode cX11_chance 15 = .ok (.invokevirtual 304, 3) := by decide +kernel
theorem dX11_chance_18 : decode cX11_chance 18 = .ok (.iconst 0, 1) := by decide +kernel
theorem dX11_chance_19 : decode cX11_chance 19 = .ok (.istore_n 2, 1) := by decide +kernel
theorem dX11_chance_20 : decode cX11_chance 20 = .ok (.iconst 0, 1) := by decide +kernel
theorem dX11_chance_21 : decode cX11_chance 21 = .ok (.istore_n 3, 1) := by decide +kernel
theorem dX11_chance_22 : decode cX11_chance 22 = .ok (.iload_n 3, 1) := by decide +kernel
theorem dX11_chance_23 : decode cX11_chance 23 = .ok (.iload_n 1, 1) := by decide +kernel
theorem dX11_chance_24 : decode cX11_chance 24 = .ok (.if_icmp .ge 31, 3) := by decide +kernel
theorem dX11_chance_27 : decode cX11_chance 27 = .ok (.aload_n 0, 1) := by decide +kernel
theorem dX11_chance_28 : decode cX11_chance 28 = .ok (.invokevirtual 324, 3) := by decide +kernel
theorem dX11_chance_31 : decode cX11_chance 31 = .ok (.ifCond .eq 6, 3) := by decide +kernel
theorem dX11_chance_34 : decode cX11_chance 34 = .ok (.iinc 2 1, 3) := by decide +kernel
theorem dX11_chance_37 : decode cX11_chance 37 = .ok (.aload_n 0, 1) := by decide +kernel
theorem dX11_chance_38 : decode cX11_chance 38 = .ok (.getfield 49, 3) := by decide +kernel
theorem dX11_chance_41 : decode cX11_chance 41 = .ok (.aload_n 0, 1) := by decide +kernel
theorem dX11_chance_42 : decode cX11_chance 42 = .ok (.getfield 79, 3) := by decide +kernel
theorem dX11_chance_45 : decode cX11_chance 45 = .ok (.invokevirtual 317, 3) := by decide +kernel
theorem dX11_chance_48 : decode cX11_chance 48 = .ok (.pop, 1) := by decide +kernel
theorem dX11_chance_49 : decode cX11_chance 49 = .ok (.iinc 3 1, 3) := by decide +kernel
theorem dX11_chance_52 : decode cX11_chance 52 = .ok (.goto (-30), 3) := by decide +kernel
theorem dX11_chance_55 : decode cX11_chance 55 = .ok (.iload_n 2, 1) := by decide +kernel
theorem dX11_chance_56 : decode cX11_chance 56 = .ok (.ireturn, 1) := by decide +kernel
def f_X11_chance_37 (K22 : Int32 → Int32 → Int32 → Hp → Option (Int32 × Hp)) (x1 : Int32) (x2 : Int32) (x3 : Int32) (S : Hp) : Option (Int32 × Hp) :=
  ob2 (f_X8_passYear 1200 S) (fun r1 S1 => le1 (x3 + (1 : Int32)) (fun v2 => K22 x1 x2 v2 S1))
set_option maxHeartbeats 4000000 in
set_option maxRecDepth 100000 in
theorem w_X11_chance_37 {p : Program} {l : Launch} {e : Env} {s : State} {m : MethodId} {args : Array Value} {below : List Frame} {meth : Method} {c : Code} {E : Ev} {S0 : Hp} {r : (Int32 × Hp)} (C : ho_I p s m args meth c RX11 cX11_chance 4 (some .int)) (K22 : Int32 → Int32 → Int32 → Hp → Option (Int32 × Hp)) (hK22 : ∀ (y1 : Int32) (y2 : Int32) (y3 : Int32) (S : Hp), K22 y1 y2 y3 S = some r → ho_G p l e s m args below meth c yH E S0 6 4 (some (.int r.1), r.2) 22 [(0, .ref (E.2.1 0)), (1, .int y1), (2, .int y2), (3, .int y3)] [] S) :
    ∀ (x1 : Int32) (x2 : Int32) (x3 : Int32) (S : Hp), f_X11_chance_37 K22 x1 x2 x3 S = some r → ho_G p l e s m args below meth c yH E S0 6 4 (some (.int r.1), r.2) 37 [(0, .ref (E.2.1 0)), (1, .int x1), (2, .int x2), (3, .int x3)] [] S := by
  intro x1 x2 x3 S h H locs ls hR hl
  unfold f_X11_chance_37 at h
  refine lv_aload_n C.1 C.2.1 dX11_chance_37 rfl (lv_at hl 0 rfl) ?_
  refine ho_getR (a' := 50) C cf11 fH_RX11_49 hR aH_0 rfl dX11_chance_38 ?_
  refine lv_aload_n C.1 C.2.1 dX11_chance_41 rfl (lv_at hl 0 rfl) ?_
  refine ho_getR (a' := 1200) C cf11 fH_RX11_79 hR aH_0 rfl dX11_chance_42 ?_
  obtain ⟨r1, S1, h1, h⟩ := ob2_ok h
  refine hr_Vi (v := r1) (S' := S1) (As := [.ref (E.2.1 1200)]) (rest := []) C cf8 (c_X8_passYear l E 1200 aH_1200 _ _ h1) yv_X8_passYear lk_RX11_317 rfl aH_50 rfl rfl hl.1 (Nat.le_of_ble_eq_true rfl) (by decide) (by decide) hR (ho_A hR) dX11_chance_45 (fun H locs hR => ?_)
  refine lv_pop C.1 C.2.1 dX11_chance_48 rfl ?_
  obtain ⟨v2, e2, h⟩ := le1_ok h
  refine lv_iinc (v := v2) (lv' := [(3, .int v2), (0, .ref (E.2.1 0)), (1, .int x1), (2, .int x2)]) C.1 C.2.1 dX11_chance_49 hl (k := 3) rfl (by rw [e2]; rfl) (by decide) rfl (fun ls hl => ?_)
  refine lv_goto (tgt := 22) C.1 C.2.1 dX11_chance_52 (by decide) ?_
  exact hK22 x1 x2 v2 S1 h _ _ _ hR (lv_sub hl [1, 2, 3, 0] rfl)
def f_X11_chance_22 : Nat → Int32 → Int32 → Int32 → Hp → Option (Int32 × Hp)
  | 0, _, _, _, _ => none
  | k + 1, x1, x2, x3, S => if x1 ≤ x3 then some (x2, S) else ob2 (f_X11_boyTells S) (fun r1 S1 => if r1 = 0 then f_X11_chance_37 (f_X11_chance_22 k) x1 x2 x3 S1 else le1 (x2 + (1 : Int32)) (fun v2 => f_X11_chance_37 (f_X11_chance_22 k) x1 v2 x3 S1))
set_option maxHeartbeats 4000000 in
set_option maxRecDepth 100000 in
theorem w_X11_chance_22 {p : Program} {l : Launch} {e : Env} {s : State} {m : MethodId} {args : Array Value} {below : List Frame} {meth : Method} {c : Code} {E : Ev} {S0 : Hp} {r : (Int32 × Hp)} (C : ho_I p s m args meth c RX11 cX11_chance 4 (some .int)) :
    ∀ (k : Nat) (x1 : Int32) (x2 : Int32) (x3 : Int32) (S : Hp), f_X11_chance_22 k x1 x2 x3 S = some r → ho_G p l e s m args below meth c yH E S0 6 4 (some (.int r.1), r.2) 22 [(0, .ref (E.2.1 0)), (1, .int x1), (2, .int x2), (3, .int x3)] [] S := by
  intro k
  induction k with
  | zero =>
    intro x1 x2 x3 S h
    exact absurd (show (none : Option (Int32 × Hp)) = some r from h) (by simp)
  | succ k ih =>
    intro x1 x2 x3 S h H locs ls hR hl
    rw [f_X11_chance_22] at h
    refine lv_iload_n C.1 C.2.1 dX11_chance_22 rfl (lv_at hl 3 rfl) ?_
    refine lv_iload_n C.1 C.2.1 dX11_chance_23 rfl (lv_at hl 1 rfl) ?_
    refine lv_icmp_ge (tgt := 55) C.1 C.2.1 dX11_chance_24 (by decide) (fun hc => ?_) (fun hc => ?_)
    · replace h := if_t h hc
      refine lv_iload_n C.1 C.2.1 dX11_chance_55 rfl (lv_at hl 2 rfl) ?_
      exact ho_iret C hR h dX11_chance_56
    · replace h := if_f h hc
      refine lv_aload_n C.1 C.2.1 dX11_chance_27 rfl (lv_at hl 0 rfl) ?_
      obtain ⟨r1, S1, h1, h⟩ := ob2_ok h
      refine hr_Vi (v := r1) (S' := S1) (As := []) (rest := []) C cf11 (c_X11_boyTells l E _ _ h1) yv_X11_boyTells lk_RX11_324 rfl aH_0 rfl rfl hl.1 (Nat.le_of_ble_eq_true rfl) (by decide) (by decide) hR (ho_A hR) dX11_chance_28 (fun H locs hR => ?_)
      refine lv_if_eq (tgt := 37) C.1 C.2.1 dX11_chance_31 (by decide) (fun hc => ?_) (fun hc => ?_)
      · replace h := if_t h hc
        exact w_X11_chance_37 C (f_X11_chance_22 k) ih x1 x2 x3 S1 h _ _ _ hR (lv_sub hl [0, 1, 2, 3] rfl)
      · replace h := if_f h hc
        obtain ⟨v2, e2, h⟩ := le1_ok h
        refine lv_iinc (v := v2) (lv' := [(2, .int v2), (0, .ref (E.2.1 0)), (1, .int x1), (3, .int x3)]) C.1 C.2.1 dX11_chance_34 hl (k := 2) rfl (by rw [e2]; rfl) (by decide) rfl (fun ls hl => ?_)
        exact w_X11_chance_37 C (f_X11_chance_22 k) ih x1 v2 x3 S1 h _ _ _ hR (lv_sub hl [1, 2, 0, 3] rfl)
def f_X11_chance (x1 : Int32) (S : Hp) : Option (Int32 × Hp) :=
  ob2 (f_X11_canPass x1 S) (fun r1 S1 => if r1 = 0 then ob2 (f_X11_refuse (3 : Int32) S1) (fun r3 S3 => some (r3, S3)) else ob (f_X11_remember S1) (fun S2 => f_X11_chance_22 5000 x1 (0 : Int32) (0 : Int32) S2))
set_option maxHeartbeats 4000000 in
set_option maxRecDepth 100000 in
theorem c_X11_chance (l : Launch) (E : Ev) (x1 : Int32) (S : Hp) (r : (Int32 × Hp)) (h : f_X11_chance x1 S = some r) : ho_M l yH E yX11_chance cX11_chance 4 (some .int) 6 [.ref (E.2.1 0), .int x1] S (some (.int r.1), r.2) := by
  refine ho_in (by decide) (Nat.le_of_ble_eq_true rfl) ?_
  intro p e s m args below meth c C hR ls hl
  have C : ho_I p s m args meth c RX11 cX11_chance 4 (some .int) := C
  have hl : lv_has ls 4 [(0, .ref (E.2.1 0)), (1, .int x1)] := hl
  unfold f_X11_chance at h
  refine lv_aload_n C.1 C.2.1 dX11_chance_0 rfl (lv_at hl 0 rfl) ?_
  refine lv_iload_n C.1 C.2.1 dX11_chance_1 rfl (lv_at hl 1 rfl) ?_
  obtain ⟨r1, S1, h1, h⟩ := ob2_ok h
  refine hr_Vi (v := r1) (S' := S1) (As := [.int x1]) (rest := []) C cf11 (c_X11_canPass l E x1 _ _ h1) yv_X11_canPass lk_RX11_314 rfl aH_0 rfl rfl hl.1 (Nat.le_of_ble_eq_true rfl) (by decide) (by decide) hR (ho_A hR) dX11_chance_2 (fun H locs hR => ?_)
  refine lv_if_ne (tgt := 14) C.1 C.2.1 dX11_chance_5 (by decide) (fun hc => ?_) (fun hc => ?_)
  · replace h := if_f h hc
    refine lv_aload_n C.1 C.2.1 dX11_chance_14 rfl (lv_at hl 0 rfl) ?_
    obtain ⟨S2, h2, h⟩ := ob_ok h
    refine hr_Vv (S' := S2) (As := []) (rest := []) C cf11 (c_X11_remember l E _ _ h2) yv_X11_remember lk_RX11_304 rfl aH_0 rfl rfl hl.1 (Nat.le_of_ble_eq_true rfl) (by decide) (by decide) hR (ho_A hR) dX11_chance_15 (fun H locs hR => ?_)
    refine lv_iconst (v := (0 : Int32)) C.1 C.2.1 dX11_chance_18 (by decide) ?_
    refine lv_istore_n (lv' := [(2, .int (0 : Int32)), (0, .ref (E.2.1 0)), (1, .int x1)]) C.1 C.2.1 dX11_chance_19 rfl hl (by decide) rfl (fun ls hl => ?_)
    refine lv_iconst (v := (0 : Int32)) C.1 C.2.1 dX11_chance_20 (by decide) ?_
    refine lv_istore_n (lv' := [(3, .int (0 : Int32)), (2, .int (0 : Int32)), (0, .ref (E.2.1 0)), (1, .int x1)]) C.1 C.2.1 dX11_chance_21 rfl hl (by decide) rfl (fun ls hl => ?_)
    exact w_X11_chance_22 C 5000 x1 (0 : Int32) (0 : Int32) S2 h _ _ _ hR (lv_sub hl [2, 3, 1, 0] rfl)
  · replace h := if_t h hc
    refine lv_aload_n C.1 C.2.1 dX11_chance_8 rfl (lv_at hl 0 rfl) ?_
    refine lv_iconst (v := (3 : Int32)) C.1 C.2.1 dX11_chance_9 (by decide) ?_
    obtain ⟨r3, S3, h3, h⟩ := ob2_ok h
    refine hr_Vi (v := r3) (S' := S3) (As := [.int (3 : Int32)]) (rest := []) C cf11 (c_X11_refuse l E (3 : Int32) _ _ h3) yv_X11_refuse lk_RX11_111 rfl aH_0 rfl rfl hl.1 (Nat.le_of_ble_eq_true rfl) (by decide) (by decide) hR (ho_A hR) dX11_chance_10 (fun H locs hR => ?_)
    exact ho_iret C hR h dX11_chance_13
theorem dX11_undo_0 : decode cX11_undo 0 = .ok (.aload_n 0, 1) := by decide +kernel
theorem dX11_undo_1 : decode cX11_undo 1 = .ok (.getfield 102, 3) := by decide +kernel
theorem dX11_undo_4 : decode cX11_undo 4 = .ok (.ifCond .ne 9, 3) := by decide +kernel
theorem dX11_undo_7 : decode cX11_undo 7 = .ok (.aload_n 0, 1) := by decide +kernel
theorem dX11_undo_8 : decode cX11_undo 8 = .ok (.iconst 4, 1) := by decide +kernel
theorem dX11_undo_9 : decode cX11_undo 9 = .ok (.invokevirtual 119, 3) := by decide +kernel
theorem dX11_undo_12 : decode cX11_undo 12 = .ok (.ireturn, 1) := by decide +kernel
theorem dX11_undo_13 : decode cX11_undo 13 = .ok (.aload_n 0, 1) := by decide +kernel
theorem dX11_undo_14 : decode cX11_undo 14 = .ok (.dup, 1) := by decide +kernel
theorem dX11_undo_15 : decode cX11_undo 15 = .ok (.getfield 102, 3) := by decide +kernel
theorem dX11_undo_18 : decode cX11_undo 18 = .ok (.iconst 1, 1) := by decide +kernel
theorem dX11_undo_19 : decode cX11_undo 19 = .ok (.isub, 1) := by decide +kernel
theorem dX11_undo_20 : decode cX11_undo 20 = .ok (.putfield 102, 3) := by decide +kernel
theorem dX11_undo_23 : decode cX11_undo 23 = .ok (.aload_n 0, 1) := by decide +kernel
theorem dX11_undo_24 : decode cX11_undo 24 = .ok (.getfield 79, 3) := by decide +kernel
theorem dX11_undo_27 : decode cX11_undo 27 = .ok (.aload_n 0, 1) := by decide +kernel
theorem dX11_undo_28 : decode cX11_undo 28 = .ok (.getfield 86, 3) := by decide +kernel
theorem dX11_undo_31 : decode cX11_undo 31 = .ok (.aload_n 0, 1) := by decide +kernel
theorem dX11_undo_32 : decode cX11_undo 32 = .ok (.getfield 98, 3) := by decide +kernel
theorem dX11_undo_35 : decode cX11_undo 35 = .ok (.aload_n 0, 1) := by decide +kernel
theorem dX11_undo_36 : decode cX11_undo 36 = .ok (.getfield 102, 3) := by decide +kernel
theorem dX11_undo_39 : decode cX11_undo 39 = .ok (.iadd, 1) := by decide +kernel
theorem dX11_undo_40 : decode cX11_undo 40 = .ok (.bipush 20, 2) := by decide +kernel
theorem dX11_undo_42 : decode cX11_undo 42 = .ok (.irem, 1) := by decide +kernel
theorem dX11_undo_43 : decode cX11_undo 43 = .ok (.aaload, 1) := by decide +kernel
theorem dX11_undo_44 : decode cX11_undo 44 = .ok (.invokevirtual 226, 3) := by decide +kernel
theorem dX11_undo_47 : decode cX11_undo 47 = .ok (.aload_n 0, 1) := by decide +kernel
theorem dX11_undo_48 : decode cX11_undo 48 = .ok (.getfield 58, 3) := by decide +kernel
theorem dX11_undo_51 : decode cX11_undo 51 = .ok (.invokevirtual 328, 3) := by decide +kernel
theorem dX11_undo_54 : decode cX11_undo 54 = .ok (.iconst 1, 1) := by decide +kernel
theorem dX11_undo_55 : decode cX11_undo 55 = .ok (.ireturn, 1) := by decide +kernel
def f_X11_undo (S : Hp) : Option (Int32 × Hp) :=
  if (S.1 0 15) = 0 then ob2 (f_X11_refuses (4 : Int32) S) (fun r5 S5 => tr r5 (some (r5, S5))) else le1 (ho_sI S 0 15 ((S.1 0 15) - (1 : Int32))) (fun S1 => ldR yH 2 20 (((S1.1 0 14) + (S1.1 0 15)) - ((S1.1 0 14) + (S1.1 0 15)) / (20 : Int32) * (20 : Int32)) 1 9 (fun p2 => ob (f_X9_copy 1200 p2 S1) (fun S3 => ob (f_X0_forget S3) (fun S4 => some ((1 : Int32), S4)))))
set_option maxHeartbeats 4000000 in
set_option maxRecDepth 100000 in
theorem c_X11_undo (l : Launch) (E : Ev) (S : Hp) (r : (Int32 × Hp)) (h : f_X11_undo S = some r) : ho_M l yH E yX11_undo cX11_undo 1 (some .boolean) 2 [.ref (E.2.1 0)] S (some (.int r.1), r.2) := by
  refine ho_in (by decide) (Nat.le_of_ble_eq_true rfl) ?_
  intro p e s m args below meth c C hR ls hl
  have C : ho_I p s m args meth c RX11 cX11_undo 1 (some .boolean) := C
  have hl : lv_has ls 1 [(0, .ref (E.2.1 0))] := hl
  unfold f_X11_undo at h
  refine lv_aload_n C.1 C.2.1 dX11_undo_0 rfl (lv_at hl 0 rfl) ?_
  refine ho_getI C cf11 fH_RX11_102 hR aH_0 dX11_undo_1 ?_
  refine lv_if_ne (tgt := 13) C.1 C.2.1 dX11_undo_4 (by decide) (fun hc => ?_) (fun hc => ?_)
  · replace h := if_f h hc
    refine lv_aload_n C.1 C.2.1 dX11_undo_13 rfl (lv_at hl 0 rfl) ?_
    refine lv_dup C.1 C.2.1 dX11_undo_14 rfl ?_
    refine ho_getI C cf11 fH_RX11_102 hR aH_0 dX11_undo_15 ?_
    refine lv_iconst (v := (1 : Int32)) C.1 C.2.1 dX11_undo_18 (by decide) ?_
    refine lv_isub C.1 C.2.1 dX11_undo_19 ?_
    obtain ⟨S1, e1, h⟩ := le1_ok h
    refine hr_putI C cf11 fH_RX11_102 hR aH_0 e1 dX11_undo_20 (fun H locs hR => ?_)
    refine lv_aload_n C.1 C.2.1 dX11_undo_23 rfl (lv_at hl 0 rfl) ?_
    refine ho_getR (a' := 1200) C cf11 fH_RX11_79 hR aH_0 rfl dX11_undo_24 ?_
    refine lv_aload_n C.1 C.2.1 dX11_undo_27 rfl (lv_at hl 0 rfl) ?_
    refine ho_getR (a' := 2) C cf11 fH_RX11_86 hR aH_0 rfl dX11_undo_28 ?_
    refine lv_aload_n C.1 C.2.1 dX11_undo_31 rfl (lv_at hl 0 rfl) ?_
    refine ho_getI C cf11 fH_RX11_98 hR aH_0 dX11_undo_32 ?_
    refine lv_aload_n C.1 C.2.1 dX11_undo_35 rfl (lv_at hl 0 rfl) ?_
    refine ho_getI C cf11 fH_RX11_102 hR aH_0 dX11_undo_36 ?_
    refine lv_iadd C.1 C.2.1 dX11_undo_39 ?_
    refine lv_bipush (v := (20 : Int32)) C.1 C.2.1 dX11_undo_40 (by decide) ?_
    refine lv_irem C.1 C.2.1 dX11_undo_42 (by decide) ?_
    obtain ⟨p2, e2, hi2, hp2, h⟩ := ldR_ok h
    refine hr_old C hR aH_2 hi2 e2 dX11_undo_43 ?_
    obtain ⟨S3, h3, h⟩ := ob_ok h
    refine hr_Vv (S' := S3) (As := [.ref (E.2.1 p2)]) (rest := []) C cf9 (c_X9_copy l E 1200 p2 aH_1200 hp2 _ _ h3) yv_X9_copy lk_RX11_226 rfl aH_1200 rfl rfl hl.1 (Nat.le_of_ble_eq_true rfl) (by decide) (by decide) hR (ho_A hR) dX11_undo_44 (fun H locs hR => ?_)
    refine lv_aload_n C.1 C.2.1 dX11_undo_47 rfl (lv_at hl 0 rfl) ?_
    refine ho_getR (a' := 60) C cf11 fH_RX11_58 hR aH_0 rfl dX11_undo_48 ?_
    obtain ⟨S4, h4, h⟩ := ob_ok h
    refine hr_Vv (S' := S4) (As := []) (rest := []) C cf0 (c_X0_forget l E _ _ h4) yv_X0_forget lk_RX11_328 rfl aH_60 rfl rfl hl.1 (Nat.le_of_ble_eq_true rfl) (by decide) (by decide) hR (ho_A hR) dX11_undo_51 (fun H locs hR => ?_)
    refine lv_iconst (v := (1 : Int32)) C.1 C.2.1 dX11_undo_54 (by decide) ?_
    exact ho_zret C hR (Or.inr rfl) h dX11_undo_55
  · replace h := if_t h hc
    refine lv_aload_n C.1 C.2.1 dX11_undo_7 rfl (lv_at hl 0 rfl) ?_
    refine lv_iconst (v := (4 : Int32)) C.1 C.2.1 dX11_undo_8 (by decide) ?_
    obtain ⟨r5, S5, h5, h⟩ := ob2_ok h
    refine hr_Vi (v := r5) (S' := S5) (As := [.int (4 : Int32)]) (rest := []) C cf11 (c_X11_refuses l E (4 : Int32) _ _ h5) yv_X11_refuses lk_RX11_119 rfl aH_0 rfl rfl hl.1 (Nat.le_of_ble_eq_true rfl) (by decide) (by decide) hR (ho_A hR) dX11_undo_9 (fun H locs hR => ?_)
    obtain ⟨hz, h⟩ := tr_ok h
    exact ho_zret C hR hz h dX11_undo_12
theorem dX11_seed_0 : decode cX11_seed 0 = .ok (.iload_n 1, 1) := by decide +kernel
theorem dX11_seed_1 : decode cX11_seed 1 = .ok (.ifCond .ge 9, 3) := by decide +kernel
theorem dX11_seed_4 : decode cX11_seed 4 = .ok (.aload_n 0, 1) := by decide +kernel
theorem dX11_seed_5 : decode cX11_seed 5 = .ok (.iconst 5, 1) := by decide +kernel
theorem dX11_seed_6 : decode cX11_seed 6 = .ok (.invokevirtual 119, 3) := by decide +kernel
theorem dX11_seed_9 : decode cX11_seed 9 = .ok (.ireturn, 1) := by decide +kernel
theorem dX11_seed_10 : decode cX11_seed 10 = .ok (.aload_n 0, 1) := by decide +kernel
theorem dX11_seed_11 : decode cX11_seed 11 = .ok (.iload_n 1, 1) := by decide +kernel
theorem dX11_seed_12 : decode cX11_seed 12 = .ok (.putfield 105, 3) := by decide +kernel
theorem dX11_seed_15 : decode cX11_seed 15 = .ok (.iconst 1, 1) := by decide +kernel
theorem dX11_seed_16 : decode cX11_seed 16 = .ok (.ireturn, 1) := by decide +kernel
def f_X11_seed (x1 : Int32) (S : Hp) : Option (Int32 × Hp) :=
  if 0 ≤ x1 then le1 (ho_sI S 0 16 x1) (fun S1 => some ((1 : Int32), S1)) else ob2 (f_X11_refuses (5 : Int32) S) (fun r2 S2 => tr r2 (some (r2, S2)))
set_option maxHeartbeats 4000000 in
set_option maxRecDepth 100000 in
theorem c_X11_seed (l : Launch) (E : Ev) (x1 : Int32) (S : Hp) (r : (Int32 × Hp)) (h : f_X11_seed x1 S = some r) : ho_M l yH E yX11_seed cX11_seed 2 (some .boolean) 1 [.ref (E.2.1 0), .int x1] S (some (.int r.1), r.2) := by
  refine ho_in (by decide) (Nat.le_of_ble_eq_true rfl) ?_
  intro p e s m args below meth c C hR ls hl
  have C : ho_I p s m args meth c RX11 cX11_seed 2 (some .boolean) := C
  have hl : lv_has ls 2 [(0, .ref (E.2.1 0)), (1, .int x1)] := hl
  unfold f_X11_seed at h
  refine lv_iload_n C.1 C.2.1 dX11_seed_0 rfl (lv_at hl 1 rfl) ?_
  refine lv_if_ge (tgt := 10) C.1 C.2.1 dX11_seed_1 (by decide) (fun hc => ?_) (fun hc => ?_)
  · replace h := if_t h hc
    refine lv_aload_n C.1 C.2.1 dX11_seed_10 rfl (lv_at hl 0 rfl) ?_
    refine lv_iload_n C.1 C.2.1 dX11_seed_11 rfl (lv_at hl 1 rfl) ?_
    obtain ⟨S1, e1, h⟩ := le1_ok h
    refine hr_putI C cf11 fH_RX11_105 hR aH_0 e1 dX11_seed_12 (fun H locs hR => ?_)
    refine lv_iconst (v := (1 : Int32)) C.1 C.2.1 dX11_seed_15 (by decide) ?_
    exact ho_zret C hR (Or.inr rfl) h dX11_seed_16
  · replace h := if_f h hc
    refine lv_aload_n C.1 C.2.1 dX11_seed_4 rfl (lv_at hl 0 rfl) ?_
    refine lv_iconst (v := (5 : Int32)) C.1 C.2.1 dX11_seed_5 (by decide) ?_
    obtain ⟨r2, S2, h2, h⟩ := ob2_ok h
    refine hr_Vi (v := r2) (S' := S2) (As := [.int (5 : Int32)]) (rest := []) C cf11 (c_X11_refuses l E (5 : Int32) _ _ h2) yv_X11_refuses lk_RX11_119 rfl aH_0 rfl rfl hl.1 (Nat.le_of_ble_eq_true rfl) (by decide) (by decide) hR (ho_A hR) dX11_seed_6 (fun H locs hR => ?_)
    obtain ⟨hz, h⟩ := tr_ok h
    exact ho_zret C hR hz h dX11_seed_9
theorem dX11_ask_0 : decode cX11_ask 0 = .ok (.aload_n 0, 1) := by decide +kernel
theorem dX11_ask_1 : decode cX11_ask 1 = .ok (.getfield 94, 3) := by decide +kernel
theorem dX11_ask_4 : decode cX11_ask 4 = .ok (.ifCond .ne 15, 3) := by decide +kernel
theorem dX11_ask_7 : decode cX11_ask 7 = .ok (.aload_n 0, 1) := by decide +kernel
theorem dX11_ask_8 : decode cX11_ask 8 = .ok (.getfield 10, 3) := by decide +kernel
theorem dX11_ask_11 : decode cX11_ask 11 = .ok (.iconst 0, 1) := by decide +kernel
theorem dX11_ask_12 : decode cX11_ask 12 = .ok (.putfield 108, 3) := by decide +kernel
theorem dX11_ask_15 : decode cX11_ask 15 = .ok (.ldc2_w 331, 3) := by decide +kernel
theorem dX11_ask_18 : decode cX11_ask 18 = .ok (.lreturn, 1) := by decide +kernel
theorem dX11_ask_19 : decode cX11_ask 19 = .ok (.aload_n 0, 1) := by decide +kernel
theorem dX11_ask_20 : decode cX11_ask 20 = .ok (.getfield 40, 3) := by decide +kernel
theorem dX11_ask_23 : decode cX11_ask 23 = .ok (.invokevirtual 333, 3) := by decide +kernel
theorem dX11_ask_26 : decode cX11_ask 26 = .ok (.istore_n 1, 1) := by decide +kernel
theorem dX11_ask_27 : decode cX11_ask 27 = .ok (.aload_n 0, 1) := by decide +kernel
theorem dX11_ask_28 : decode cX11_ask 28 = .ok (.getfield 10, 3) := by decide +kernel
theorem dX11_ask_31 : decode cX11_ask 31 = .ok (.iconst 0, 1) := by decide +kernel
theorem dX11_ask_32 : decode cX11_ask 32 = .ok (.putfield 108, 3) := by decide +kernel
theorem dX11_ask_35 : decode cX11_ask 35 = .ok (.iload_n 1, 1) := by decide +kernel
theorem dX11_ask_36 : decode cX11_ask 36 = .ok (.ifCond .eq 21, 3) := by decide +kernel
theorem dX11_ask_39 : decode cX11_ask 39 = .ok (.aload_n 0, 1) := by decide +kernel
theorem dX11_ask_40 : decode cX11_ask 40 = .ok (.getfield 40, 3) := by decide +kernel
theorem dX11_ask_43 : decode cX11_ask 43 = .ok (.aload_n 0, 1) := by decide +kernel
theorem dX11_ask_44 : decode cX11_ask 44 = .ok (.getfield 49, 3) := by decide +kernel
theorem dX11_ask_47 : decode cX11_ask 47 = .ok (.aload_n 0, 1) := by decide +kernel
theorem dX11_ask_48 : decode cX11_ask 48 = .ok (.getfield 79, 3) := by decide +kernel
theorem dX11_ask_51 : decode cX11_ask 51 = .ok (.invokevirtual 336, 3) := by decide +kernel
theorem dX11_ask_54 : decode cX11_ask 54 = .ok (.goto 6, 3) := by decide +kernel
theorem dX11_ask_57 : decode cX11_ask 57 = .ok (.ldc2_w 331, 3) := by decide +kernel
theorem dX11_ask_60 : decode cX11_ask 60 = .ok (.lreturn, 1) := by decide +kernel
def f_X11_ask (S : Hp) : Option (Int64 × Hp) :=
  if (S.1 0 13) = 0 then le1 (ho_sI S 10 1 (0 : Int32)) (fun S4 => some ((-1000000000000000 : Int64), S4)) else ob2 (f_X6_readAll S) (fun r1 S1 => le1 (ho_sI S1 10 1 (0 : Int32)) (fun S2 => if r1 = 0 then some ((-1000000000000000 : Int64), S2) else ob2 (f_X6_answer 1200 S2) (fun r3 S3 => some (r3, S3))))
set_option maxHeartbeats 4000000 in
set_option maxRecDepth 100000 in
theorem c_X11_ask (l : Launch) (E : Ev) (S : Hp) (r : (Int64 × Hp)) (h : f_X11_ask S = some r) : ho_M l yH E yX11_ask cX11_ask 2 (some .long) 71 [.ref (E.2.1 0)] S (some (.long r.1), r.2) := by
  refine ho_in (by decide) (Nat.le_of_ble_eq_true rfl) ?_
  intro p e s m args below meth c C hR ls hl
  have C : ho_I p s m args meth c RX11 cX11_ask 2 (some .long) := C
  have hl : lv_has ls 2 [(0, .ref (E.2.1 0))] := hl
  unfold f_X11_ask at h
  refine lv_aload_n C.1 C.2.1 dX11_ask_0 rfl (lv_at hl 0 rfl) ?_
  refine ho_getI C cf11 fH_RX11_94 hR aH_0 dX11_ask_1 ?_
  refine lv_if_ne (tgt := 19) C.1 C.2.1 dX11_ask_4 (by decide) (fun hc => ?_) (fun hc => ?_)
  · replace h := if_f h hc
    refine lv_aload_n C.1 C.2.1 dX11_ask_19 rfl (lv_at hl 0 rfl) ?_
    refine ho_getR (a' := 30) C cf11 fH_RX11_40 hR aH_0 rfl dX11_ask_20 ?_
    obtain ⟨r1, S1, h1, h⟩ := ob2_ok h
    refine hr_Vi (v := r1) (S' := S1) (As := []) (rest := []) C cf6 (c_X6_readAll l E _ _ h1) yv_X6_readAll lk_RX11_333 rfl aH_30 rfl rfl hl.1 (Nat.le_of_ble_eq_true rfl) (by decide) (by decide) hR (ho_A hR) dX11_ask_23 (fun H locs hR => ?_)
    refine lv_istore_n (lv' := [(1, .int r1), (0, .ref (E.2.1 0))]) C.1 C.2.1 dX11_ask_26 rfl hl (by decide) rfl (fun ls hl => ?_)
    refine lv_aload_n C.1 C.2.1 dX11_ask_27 rfl (lv_at hl 1 rfl) ?_
    refine ho_getR (a' := 10) C cf11 fH_RX11_10 hR aH_0 rfl dX11_ask_28 ?_
    refine lv_iconst (v := (0 : Int32)) C.1 C.2.1 dX11_ask_31 (by decide) ?_
    obtain ⟨S2, e2, h⟩ := le1_ok h
    refine hr_putI C cf10 fH_RX11_108 hR aH_10 e2 dX11_ask_32 (fun H locs hR => ?_)
    refine lv_iload_n C.1 C.2.1 dX11_ask_35 rfl (lv_at hl 0 rfl) ?_
    refine lv_if_eq (tgt := 57) C.1 C.2.1 dX11_ask_36 (by decide) (fun hc => ?_) (fun hc => ?_)
    · replace h := if_t h hc
      refine lv_ldc2 (v := (-1000000000000000 : Int64)) C.1 C.2.1 C.2.2.2.2.1 (C.2.2.2.2.2.1 _ kc_RX11_331) dX11_ask_57 ?_
      exact ho_lret C hR h dX11_ask_60
    · replace h := if_f h hc
      refine lv_aload_n C.1 C.2.1 dX11_ask_39 rfl (lv_at hl 1 rfl) ?_
      refine ho_getR (a' := 30) C cf11 fH_RX11_40 hR aH_0 rfl dX11_ask_40 ?_
      refine lv_aload_n C.1 C.2.1 dX11_ask_43 rfl (lv_at hl 1 rfl) ?_
      refine ho_getR (a' := 50) C cf11 fH_RX11_49 hR aH_0 rfl dX11_ask_44 ?_
      refine lv_aload_n C.1 C.2.1 dX11_ask_47 rfl (lv_at hl 1 rfl) ?_
      refine ho_getR (a' := 1200) C cf11 fH_RX11_79 hR aH_0 rfl dX11_ask_48 ?_
      obtain ⟨r3, S3, h3, h⟩ := ob2_ok h
      refine hr_Vl (w := r3) (S' := S3) (As := [.ref (E.2.1 50), .ref (E.2.1 1200)]) (rest := []) C cf6 (c_X6_answer l E 1200 aH_1200 _ _ h3) yv_X6_answer lk_RX11_336 rfl aH_30 rfl rfl hl.1 (Nat.le_of_ble_eq_true rfl) (by decide) (by decide) hR (ho_A hR) dX11_ask_51 (fun H locs hR => ?_)
      refine lv_goto (tgt := 60) C.1 C.2.1 dX11_ask_54 (by decide) ?_
      exact ho_lret C hR h dX11_ask_60
  · replace h := if_t h hc
    refine lv_aload_n C.1 C.2.1 dX11_ask_7 rfl (lv_at hl 0 rfl) ?_
    refine ho_getR (a' := 10) C cf11 fH_RX11_10 hR aH_0 rfl dX11_ask_8 ?_
    refine lv_iconst (v := (0 : Int32)) C.1 C.2.1 dX11_ask_11 (by decide) ?_
    obtain ⟨S4, e4, h⟩ := le1_ok h
    refine hr_putI C cf10 fH_RX11_108 hR aH_10 e4 dX11_ask_12 (fun H locs hR => ?_)
    refine lv_ldc2 (v := (-1000000000000000 : Int64)) C.1 C.2.1 C.2.2.2.2.1 (C.2.2.2.2.2.1 _ kc_RX11_331) dX11_ask_15 ?_
    exact ho_lret C hR h dX11_ask_18
theorem dX11_image_0 : decode cX11_image 0 = .ok (.aload_n 0, 1) := by decide +kernel
theorem dX11_image_1 : decode cX11_image 1 = .ok (.getfield 72, 3) := by decide +kernel
theorem dX11_image_4 : decode cX11_image 4 = .ok (.aload_n 0, 1) := by decide +kernel
theorem dX11_image_5 : decode cX11_image 5 = .ok (.getfield 79, 3) := by decide +kernel
theorem dX11_image_8 : decode cX11_image 8 = .ok (.aload_n 0, 1) := by decide +kernel
theorem dX11_image_9 : decode cX11_image 9 = .ok (.getfield 19, 3) := by decide +kernel
theorem dX11_image_12 : decode cX11_image 12 = .ok (.invokevirtual 340, 3) := by decide +kernel
theorem dX11_image_15 : decode cX11_image 15 = .ok (.aload_n 0, 1) := by decide +kernel
theorem dX11_image_16 : decode cX11_image 16 = .ok (.getfield 72, 3) := by decide +kernel
theorem dX11_image_19 : decode cX11_image 19 = .ok (.getfield 344, 3) := by decide +kernel
theorem dX11_image_22 : decode cX11_image 22 = .ok (.ireturn, 1) := by decide +kernel
def f_X11_image (S : Hp) : Option (Int32 × Hp) :=
  ldP yH S 0 1 2 (fun p1 => ob (f_X5_write 1200 p1 S) (fun S2 => some ((S2.1 90 1), S2)))
set_option maxHeartbeats 4000000 in
set_option maxRecDepth 100000 in
theorem c_X11_image (l : Launch) (E : Ev) (S : Hp) (r : (Int32 × Hp)) (h : f_X11_image S = some r) : ho_M l yH E yX11_image cX11_image 1 (some .int) 2 [.ref (E.2.1 0)] S (some (.int r.1), r.2) := by
  refine ho_in (by decide) (Nat.le_of_ble_eq_true rfl) ?_
  intro p e s m args below meth c C hR ls hl
  have C : ho_I p s m args meth c RX11 cX11_image 1 (some .int) := C
  have hl : lv_has ls 1 [(0, .ref (E.2.1 0))] := hl
  unfold f_X11_image at h
  refine lv_aload_n C.1 C.2.1 dX11_image_0 rfl (lv_at hl 0 rfl) ?_
  refine ho_getR (a' := 90) C cf11 fH_RX11_72 hR aH_0 rfl dX11_image_1 ?_
  refine lv_aload_n C.1 C.2.1 dX11_image_4 rfl (lv_at hl 0 rfl) ?_
  refine ho_getR (a' := 1200) C cf11 fH_RX11_79 hR aH_0 rfl dX11_image_5 ?_
  refine lv_aload_n C.1 C.2.1 dX11_image_8 rfl (lv_at hl 0 rfl) ?_
  obtain ⟨p1, e1, hp1, h⟩ := ldP_ok h
  refine hr_getP C cf11 fH_RX11_19 hR aH_0 e1 dX11_image_9 ?_
  obtain ⟨S2, h2, h⟩ := ob_ok h
  refine hr_Vv (S' := S2) (As := [.ref (E.2.1 1200), .ref (E.2.1 p1)]) (rest := []) C cf5 (c_X5_write l E 1200 p1 aH_1200 hp1 _ _ h2) yv_X5_write lk_RX11_340 rfl aH_90 rfl rfl hl.1 (Nat.le_of_ble_eq_true rfl) (by decide) (by decide) hR (ho_A hR) dX11_image_12 (fun H locs hR => ?_)
  refine lv_aload_n C.1 C.2.1 dX11_image_15 rfl (lv_at hl 0 rfl) ?_
  refine ho_getR (a' := 90) C cf11 fH_RX11_72 hR aH_0 rfl dX11_image_16 ?_
  refine ho_getI C cf5 fH_RX11_344 hR aH_90 dX11_image_19 ?_
  exact ho_iret C hR h dX11_image_22
