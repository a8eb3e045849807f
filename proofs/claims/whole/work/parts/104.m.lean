theorem dX12_putsAside_0 : decode cX12_putsAside 0 = .ok (.aload_n 0, 1) := by decide +kernel
theorem dX12_putsAside_1 : decode cX12_putsAside 1 = .ok (.iconst 1, 1) := by decide +kernel
theorem dX12_putsAside_2 : decode cX12_putsAside 2 = .ok (.putfield 483, 3) := by decide +kernel
theorem dX12_putsAside_5 : decode cX12_putsAside 5 = .ok (.iconst 0, 1) := by decide +kernel
theorem dX12_putsAside_6 : decode cX12_putsAside 6 = .ok (.istore_n 1, 1) := by decide +kernel
theorem dX12_putsAside_7 : decode cX12_putsAside 7 = .ok (.iload_n 1, 1) := by decide +kernel
theorem dX12_putsAside_8 : decode cX12_putsAside 8 = .ok (.bipush 26, 2) := by decide +kernel
theorem dX12_putsAside_10 : decode cX12_putsAside 10 = .ok (.if_icmp .ge 21, 3) := by decide +kernel
theorem dX12_putsAside_13 : decode cX12_putsAside 13 = .ok (.aload_n 0, 1) := by decide +kernel
theorem dX12_putsAside_14 : decode cX12_putsAside 14 = .ok (.getfield 142, 3) := by decide +kernel
theorem dX12_putsAside_17 : decode cX12_putsAside 17 = .ok (.iload_n 1, 1) := by decide +kernel
theorem dX12_putsAside_18 : decode cX12_putsAside 18 = .ok (.aload_n 0, 1) := by decide +kernel
theorem dX12_putsAside_19 : decode cX12_putsAside 19 = .ok (.getfield 139, 3) := by decide +kernel
theorem dX12_putsAside_22 : decode cX12_putsAside 22 = .ok (.iload_n 1, 1) := by decide +kernel
theorem dX12_putsAside_23 : decode cX12_putsAside 23 = .ok (.iaload, 1) := by decide +kernel
theorem dX12_putsAside_24 : decode cX12_putsAside 24 = .ok (.iastore, 1) := by decide +kernel
theorem dX12_putsAside_25 : decode cX12_putsAside 25 = .ok (.iinc 1 1, 3) := by decide +kernel
theorem dX12_putsAside_28 : decode cX12_putsAside 28 = .ok (.goto (-21), 3) := by decide +kernel
theorem dX12_putsAside_31 : decode cX12_putsAside 31 = .ok (.return_, 1) := by decide +kernel
def f_X12_putsAside_7 : Nat → Int32 → Hp → Option Hp
  | 0, _, _ => none
  | k + 1, x1, S => if (26 : Int32) ≤ x1 then some S else ldI S 55 117 x1 (fun v1 => stI S 56 26 x1 v1 (fun S2 => le1 (x1 + (1 : Int32)) (fun v3 => f_X12_putsAside_7 k v3 S2)))
set_option maxHeartbeats 4000000 in
set_option maxRecDepth 100000 in
theorem w_X12_putsAside_7 {p : Program} {l : Launch} {e : Env} {s : State} {m : MethodId} {args : Array Value} {below : List Frame} {meth : Method} {c : Code} {E : Ev} {S0 : Hp} {r : Hp} (C : ho_I p s m args meth c RX12 cX12_putsAside 2 none) :
    ∀ (k : Nat) (x1 : Int32) (S : Hp), f_X12_putsAside_7 k x1 S = some r → ho_G p l e s m args below meth c yM E S0 0 2 (none, r) 7 [(0, .ref (E.2.1 0)), (1, .int x1)] [] S := by
  intro k
  induction k with
  | zero =>
    intro x1 S h
    exact absurd (show (none : Option Hp) = some r from h) (by simp)
  | succ k ih =>
    intro x1 S h H locs ls hR hl
    rw [f_X12_putsAside_7] at h
    refine lv_iload_n C.1 C.2.1 dX12_putsAside_7 rfl (lv_at hl 1 rfl) ?_
    refine lv_bipush (v := (26 : Int32)) C.1 C.2.1 dX12_putsAside_8 (by decide) ?_
    refine lv_icmp_ge (tgt := 31) C.1 C.2.1 dX12_putsAside_10 (by decide) (fun hc => ?_) (fun hc => ?_)
    · replace h := if_t h hc
      exact ho_vret C hR h dX12_putsAside_31
    · replace h := if_f h hc
      refine lv_aload_n C.1 C.2.1 dX12_putsAside_13 rfl (lv_at hl 0 rfl) ?_
      refine ho_getR (a' := 56) C cf12 fM_142 hR aM_0 rfl dX12_putsAside_14 ?_
      refine lv_iload_n C.1 C.2.1 dX12_putsAside_17 rfl (lv_at hl 1 rfl) ?_
      refine lv_aload_n C.1 C.2.1 dX12_putsAside_18 rfl (lv_at hl 0 rfl) ?_
      refine ho_getR (a' := 55) C cf12 fM_139 hR aM_0 rfl dX12_putsAside_19 ?_
      refine lv_iload_n C.1 C.2.1 dX12_putsAside_22 rfl (lv_at hl 1 rfl) ?_
      obtain ⟨v1, e1, hi1, h⟩ := ldI_ok h
      refine hr_ild C hR aM_55 hi1 e1 dX12_putsAside_23 ?_
      obtain ⟨S2, e2, hi2, h⟩ := stI_ok h
      refine hr_ist C hR aM_56 hi2 e2 dX12_putsAside_24 (fun H locs hR => ?_)
      obtain ⟨v3, e3, h⟩ := le1_ok h
      refine lv_iinc (v := v3) (lv' := [(1, .int v3), (0, .ref (E.2.1 0))]) C.1 C.2.1 dX12_putsAside_25 hl (k := 1) rfl (by rw [e3]; rfl) (by decide) rfl (fun ls hl => ?_)
      refine lv_goto (tgt := 7) C.1 C.2.1 dX12_putsAside_28 (by decide) ?_
      exact ih v3 S2 h _ _ _ hR (lv_sub hl [1, 0] rfl)
def f_X12_putsAside (S : Hp) : Option Hp :=
  le1 (ho_sI S 0 62 (1 : Int32)) (fun S1 => f_X12_putsAside_7 5000 (0 : Int32) S1)
set_option maxHeartbeats 4000000 in
set_option maxRecDepth 100000 in
theorem c_X12_putsAside (l : Launch) (E : Ev) (S : Hp) (r : Hp) (h : f_X12_putsAside S = some r) : ho_M l yM E yX12_putsAside cX12_putsAside 2 none 0 [.ref (E.2.1 0)] S (none, r) := by
  refine ho_in (by decide) (Nat.le_of_ble_eq_true rfl) ?_
  intro p e s m args below meth c C hR ls hl
  have C : ho_I p s m args meth c RX12 cX12_putsAside 2 none := C
  have hl : lv_has ls 2 [(0, .ref (E.2.1 0))] := hl
  unfold f_X12_putsAside at h
  refine lv_aload_n C.1 C.2.1 dX12_putsAside_0 rfl (lv_at hl 0 rfl) ?_
  refine lv_iconst (v := (1 : Int32)) C.1 C.2.1 dX12_putsAside_1 (by decide) ?_
  obtain ⟨S1, e1, h⟩ := le1_ok h
  refine hr_putZ C cf12 fM_483 hR aM_0 (Or.inr rfl) e1 dX12_putsAside_2 (fun H locs hR => ?_)
  refine lv_iconst (v := (0 : Int32)) C.1 C.2.1 dX12_putsAside_5 (by decide) ?_
  refine lv_istore_n (lv' := [(1, .int (0 : Int32)), (0, .ref (E.2.1 0))]) C.1 C.2.1 dX12_putsAside_6 rfl hl (by decide) rfl (fun ls hl => ?_)
  exact w_X12_putsAside_7 C 5000 (0 : Int32) S1 h _ _ _ hR (lv_sub hl [1, 0] rfl)
theorem dX12_triesAnew_0 : decode cX12_triesAnew 0 = .ok (.iconst 0, 1) := by decide +kernel
theorem dX12_triesAnew_1 : decode cX12_triesAnew 1 = .ok (.istore_n 1, 1) := by decide +kernel
theorem dX12_triesAnew_2 : decode cX12_triesAnew 2 = .ok (.iload_n 1, 1) := by decide +kernel
theorem dX12_triesAnew_3 : decode cX12_triesAnew 3 = .ok (.bipush 26, 2) := by decide +kernel
theorem dX12_triesAnew_5 : decode cX12_triesAnew 5 = .ok (.if_icmp .ge 21, 3) := by decide +kernel
theorem dX12_triesAnew_8 : decode cX12_triesAnew 8 = .ok (.aload_n 0, 1) := by decide +kernel
theorem dX12_triesAnew_9 : decode cX12_triesAnew 9 = .ok (.getfield 139, 3) := by decide +kernel
theorem dX12_triesAnew_12 : decode cX12_triesAnew 12 = .ok (.iload_n 1, 1) := by decide +kernel
theorem dX12_triesAnew_13 : decode cX12_triesAnew 13 = .ok (.aload_n 0, 1) := by decide +kernel
theorem dX12_triesAnew_14 : decode cX12_triesAnew 14 = .ok (.getfield 142, 3) := by decide +kernel
theorem dX12_triesAnew_17 : decode cX12_triesAnew 17 = .ok (.iload_n 1, 1) := by decide +kernel
theorem dX12_triesAnew_18 : decode cX12_triesAnew 18 = .ok (.iaload, 1) := by decide +kernel
theorem dX12_triesAnew_19 : decode cX12_triesAnew 19 = .ok (.iastore, 1) := by decide +kernel
theorem dX12_triesAnew_20 : decode cX12_triesAnew 20 = .ok (.iinc 1 1, 3) := by decide +kernel
theorem dX12_triesAnew_23 : decode cX12_triesAnew 23 = .ok (.goto (-21), 3) := by decide +kernel
theorem dX12_triesAnew_26 : decode cX12_triesAnew 26 = .ok (.return_, 1) := by decide +kernel
def f_X12_triesAnew_2 : Nat → Int32 → Hp → Option Hp
  | 0, _, _ => none
  | k + 1, x1, S => if (26 : Int32) ≤ x1 then some S else ldI S 56 26 x1 (fun v1 => stI S 55 117 x1 v1 (fun S2 => le1 (x1 + (1 : Int32)) (fun v3 => f_X12_triesAnew_2 k v3 S2)))
set_option maxHeartbeats 4000000 in
set_option maxRecDepth 100000 in
theorem w_X12_triesAnew_2 {p : Program} {l : Launch} {e : Env} {s : State} {m : MethodId} {args : Array Value} {below : List Frame} {meth : Method} {c : Code} {E : Ev} {S0 : Hp} {r : Hp} (C : ho_I p s m args meth c RX12 cX12_triesAnew 2 none) :
    ∀ (k : Nat) (x1 : Int32) (S : Hp), f_X12_triesAnew_2 k x1 S = some r → ho_G p l e s m args below meth c yM E S0 0 2 (none, r) 2 [(0, .ref (E.2.1 0)), (1, .int x1)] [] S := by
  intro k
  induction k with
  | zero =>
    intro x1 S h
    exact absurd (show (none : Option Hp) = some r from h) (by simp)
  | succ k ih =>
    intro x1 S h H locs ls hR hl
    rw [f_X12_triesAnew_2] at h
    refine lv_iload_n C.1 C.2.1 dX12_triesAnew_2 rfl (lv_at hl 1 rfl) ?_
    refine lv_bipush (v := (26 : Int32)) C.1 C.2.1 dX12_triesAnew_3 (by decide) ?_
    refine lv_icmp_ge (tgt := 26) C.1 C.2.1 dX12_triesAnew_5 (by decide) (fun hc => ?_) (fun hc => ?_)
    · replace h := if_t h hc
      exact ho_vret C hR h dX12_triesAnew_26
    · replace h := if_f h hc
      refine lv_aload_n C.1 C.2.1 dX12_triesAnew_8 rfl (lv_at hl 0 rfl) ?_
      refine ho_getR (a' := 55) C cf12 fM_139 hR aM_0 rfl dX12_triesAnew_9 ?_
      refine lv_iload_n C.1 C.2.1 dX12_triesAnew_12 rfl (lv_at hl 1 rfl) ?_
      refine lv_aload_n C.1 C.2.1 dX12_triesAnew_13 rfl (lv_at hl 0 rfl) ?_
      refine ho_getR (a' := 56) C cf12 fM_142 hR aM_0 rfl dX12_triesAnew_14 ?_
      refine lv_iload_n C.1 C.2.1 dX12_triesAnew_17 rfl (lv_at hl 1 rfl) ?_
      obtain ⟨v1, e1, hi1, h⟩ := ldI_ok h
      refine hr_ild C hR aM_56 hi1 e1 dX12_triesAnew_18 ?_
      obtain ⟨S2, e2, hi2, h⟩ := stI_ok h
      refine hr_ist C hR aM_55 hi2 e2 dX12_triesAnew_19 (fun H locs hR => ?_)
      obtain ⟨v3, e3, h⟩ := le1_ok h
      refine lv_iinc (v := v3) (lv' := [(1, .int v3), (0, .ref (E.2.1 0))]) C.1 C.2.1 dX12_triesAnew_20 hl (k := 1) rfl (by rw [e3]; rfl) (by decide) rfl (fun ls hl => ?_)
      refine lv_goto (tgt := 2) C.1 C.2.1 dX12_triesAnew_23 (by decide) ?_
      exact ih v3 S2 h _ _ _ hR (lv_sub hl [1, 0] rfl)
def f_X12_triesAnew (S : Hp) : Option Hp :=
  f_X12_triesAnew_2 5000 (0 : Int32) S
set_option maxHeartbeats 4000000 in
set_option maxRecDepth 100000 in
theorem c_X12_triesAnew (l : Launch) (E : Ev) (S : Hp) (r : Hp) (h : f_X12_triesAnew S = some r) : ho_M l yM E yX12_triesAnew cX12_triesAnew 2 none 0 [.ref (E.2.1 0)] S (none, r) := by
  refine ho_in (by decide) (Nat.le_of_ble_eq_true rfl) ?_
  intro p e s m args below meth c C hR ls hl
  have C : ho_I p s m args meth c RX12 cX12_triesAnew 2 none := C
  have hl : lv_has ls 2 [(0, .ref (E.2.1 0))] := hl
  unfold f_X12_triesAnew at h
  refine lv_iconst (v := (0 : Int32)) C.1 C.2.1 dX12_triesAnew_0 (by decide) ?_
  refine lv_istore_n (lv' := [(1, .int (0 : Int32)), (0, .ref (E.2.1 0))]) C.1 C.2.1 dX12_triesAnew_1 rfl hl (by decide) rfl (fun ls hl => ?_)
  exact w_X12_triesAnew_2 C 5000 (0 : Int32) S h _ _ _ hR (lv_sub hl [1, 0] rfl)
theorem dX12_takesBack_0 : decode cX12_takesBack 0 = .ok (.aload_n 0, 1) := by decide +kernel
theorem dX12_takesBack_1 : decode cX12_takesBack 1 = .ok (.invokevirtual 520, 3) := by decide +kernel
theorem dX12_takesBack_4 : decode cX12_takesBack 4 = .ok (.aload_n 0, 1) := by decide +kernel
theorem dX12_takesBack_5 : decode cX12_takesBack 5 = .ok (.iconst 0, 1) := by decide +kernel
theorem dX12_takesBack_6 : decode cX12_takesBack 6 = .ok (.putfield 483, 3) := by decide +kernel
theorem dX12_takesBack_9 : decode cX12_takesBack 9 = .ok (.return_, 1) := by decide +kernel
def f_X12_takesBack (S : Hp) : Option Hp :=
  ob (f_X12_triesAnew S) (fun S1 => le1 (ho_sI S1 0 62 (0 : Int32)) (fun S2 => some S2))
set_option maxHeartbeats 4000000 in
set_option maxRecDepth 100000 in
theorem c_X12_takesBack (l : Launch) (E : Ev) (S : Hp) (r : Hp) (h : f_X12_takesBack S = some r) : ho_M l yM E yX12_takesBack cX12_takesBack 1 none 1 [.ref (E.2.1 0)] S (none, r) := by
  refine ho_in (by decide) (Nat.le_of_ble_eq_true rfl) ?_
  intro p e s m args below meth c C hR ls hl
  have C : ho_I p s m args meth c RX12 cX12_takesBack 1 none := C
  have hl : lv_has ls 1 [(0, .ref (E.2.1 0))] := hl
  unfold f_X12_takesBack at h
  refine lv_aload_n C.1 C.2.1 dX12_takesBack_0 rfl (lv_at hl 0 rfl) ?_
  obtain ⟨S1, h1, h⟩ := ob_ok h
  refine hr_Vv (S' := S1) (As := []) (rest := []) C cf12 (c_X12_triesAnew l E _ _ h1) yv_X12_triesAnew lk_RX12_520 rfl aM_0 rfl rfl hl.1 (Nat.le_of_ble_eq_true rfl) (by decide) (by decide) hR (ho_A hR) dX12_takesBack_1 (fun H locs hR => ?_)
  refine lv_aload_n C.1 C.2.1 dX12_takesBack_4 rfl (lv_at hl 0 rfl) ?_
  refine lv_iconst (v := (0 : Int32)) C.1 C.2.1 dX12_takesBack_5 (by decide) ?_
  obtain ⟨S2, e2, h⟩ := le1_ok h
  refine hr_putZ C cf12 fM_483 hR aM_0 (Or.inl rfl) e2 dX12_takesBack_6 (fun H locs hR => ?_)
  exact ho_vret C hR h dX12_takesBack_9
theorem dX12_isAhead_0 : decode cX12_isAhead 0 = .ok (.aload_n 0, 1) := by decide +kernel
theorem dX12_isAhead_1 : decode cX12_isAhead 1 = .ok (.getfield 397, 3) := by decide +kernel
theorem dX12_isAhead_4 : decode cX12_isAhead 4 = .ok (.ifCond .eq 33, 3) := by decide +kernel
theorem dX12_isAhead_7 : decode cX12_isAhead 7 = .ok (.iload_n 1, 1) := by decide +kernel
theorem dX12_isAhead_8 : decode cX12_isAhead 8 = .ok (.i2l, 1) := by decide +kernel
theorem dX12_isAhead_9 : decode cX12_isAhead 9 = .ok (.iload_n 2, 1) := by decide +kernel
theorem dX12_isAhead_10 : decode cX12_isAhead 10 = .ok (.i2l, 1) := by decide +kernel
theorem dX12_isAhead_11 : decode cX12_isAhead 11 = .ok (.iload_n 3, 1) := by decide +kernel
theorem dX12_isAhead_12 : decode cX12_isAhead 12 = .ok (.i2l, 1) := by decide +kernel
theorem dX12_isAhead_13 : decode cX12_isAhead 13 = .ok (.invokestatic 304, 3) := by decide +kernel
theorem dX12_isAhead_16 : decode cX12_isAhead 16 = .ok (.ifCond .eq 21, 3) := by decide +kernel
theorem dX12_isAhead_19 : decode cX12_isAhead 19 = .ok (.aload_n 0, 1) := by decide +kernel
theorem dX12_isAhead_20 : decode cX12_isAhead 20 = .ok (.getfield 139, 3) := by decide +kernel
theorem dX12_isAhead_23 : decode cX12_isAhead 23 = .ok (.iconst 0, 1) := by decide +kernel
theorem dX12_isAhead_24 : decode cX12_isAhead 24 = .ok (.iaload, 1) := by decide +kernel
theorem dX12_isAhead_25 : decode cX12_isAhead 25 = .ok (.iload_n 1, 1) := by decide +kernel
theorem dX12_isAhead_26 : decode cX12_isAhead 26 = .ok (.iadd, 1) := by decide +kernel
theorem dX12_isAhead_27 : decode cX12_isAhead 27 = .ok (.sipush 999, 3) := by decide +kernel
theorem dX12_isAhead_30 : decode cX12_isAhead 30 = .ok (.if_icmp .gt 7, 3) := by decide +kernel
theorem dX12_isAhead_33 : decode cX12_isAhead 33 = .ok (.iconst 1, 1) := by decide +kernel
theorem dX12_isAhead_34 : decode cX12_isAhead 34 = .ok (.goto 4, 3) := by decide +kernel
theorem dX12_isAhead_37 : decode cX12_isAhead 37 = .ok (.iconst 0, 1) := by decide +kernel
theorem dX12_isAhead_38 : decode cX12_isAhead 38 = .ok (.ireturn, 1) := by decide +kernel
def f_X12_isAhead (x1 : Int32) (x2 : Int32) (x3 : Int32) (S : Hp) : Option (Int32 × Hp) :=
  if (S.1 0 52) = 0 then some ((0 : Int32), S) else ob2 (f_X12_isIn (x1.toInt64) (x2.toInt64) (x3.toInt64) S) (fun r1 S1 => if r1 = 0 then some ((0 : Int32), S1) else ldI S1 55 117 (0 : Int32) (fun v2 => if (999 : Int32) < (v2 + x1) then some ((0 : Int32), S1) else some ((1 : Int32), S1)))
set_option maxHeartbeats 4000000 in
set_option maxRecDepth 100000 in
theorem c_X12_isAhead (l : Launch) (E : Ev) (x1 : Int32) (x2 : Int32) (x3 : Int32) (S : Hp) (r : (Int32 × Hp)) (h : f_X12_isAhead x1 x2 x3 S = some r) : ho_M l yM E yX12_isAhead cX12_isAhead 4 (some .boolean) 1 [.ref (E.2.1 0), .int x1, .int x2, .int x3] S (some (.int r.1), r.2) := by
  refine ho_in (by decide) (Nat.le_of_ble_eq_true rfl) ?_
  intro p e s m args below meth c C hR ls hl
  have C : ho_I p s m args meth c RX12 cX12_isAhead 4 (some .boolean) := C
  have hl : lv_has ls 4 [(0, .ref (E.2.1 0)), (1, .int x1), (2, .int x2), (3, .int x3)] := hl
  unfold f_X12_isAhead at h
  refine lv_aload_n C.1 C.2.1 dX12_isAhead_0 rfl (lv_at hl 0 rfl) ?_
  refine ho_getI C cf12 fM_397 hR aM_0 dX12_isAhead_1 ?_
  refine lv_if_eq (tgt := 37) C.1 C.2.1 dX12_isAhead_4 (by decide) (fun hc => ?_) (fun hc => ?_)
  · replace h := if_t h hc
    refine lv_iconst (v := (0 : Int32)) C.1 C.2.1 dX12_isAhead_37 (by decide) ?_
    exact ho_zret C hR (Or.inl rfl) h dX12_isAhead_38
  · replace h := if_f h hc
    refine lv_iload_n C.1 C.2.1 dX12_isAhead_7 rfl (lv_at hl 1 rfl) ?_
    refine lv_i2l (v := (x1.toInt64)) C.1 C.2.1 dX12_isAhead_8 rfl ?_
    refine lv_iload_n C.1 C.2.1 dX12_isAhead_9 rfl (lv_at hl 2 rfl) ?_
    refine lv_i2l (v := (x2.toInt64)) C.1 C.2.1 dX12_isAhead_10 rfl ?_
    refine lv_iload_n C.1 C.2.1 dX12_isAhead_11 rfl (lv_at hl 3 rfl) ?_
    refine lv_i2l (v := (x3.toInt64)) C.1 C.2.1 dX12_isAhead_12 rfl ?_
    obtain ⟨r1, S1, h1, h⟩ := ob2_ok h
    refine hr_Si (v := r1) (S' := S1) (As := [.long (x1.toInt64), .long (x2.toInt64), .long (x3.toInt64)]) (rest := []) C (c_X12_isIn l E (x1.toInt64) (x2.toInt64) (x3.toInt64) _ _ h1) ys_X12_isIn lk_RX12_304 rfl rfl hl.1 (Nat.le_of_ble_eq_true rfl) (by decide) (by decide) hR (ho_A hR) dX12_isAhead_13 (fun H locs hR => ?_)
    refine lv_if_eq (tgt := 37) C.1 C.2.1 dX12_isAhead_16 (by decide) (fun hc => ?_) (fun hc => ?_)
    · replace h := if_t h hc
      refine lv_iconst (v := (0 : Int32)) C.1 C.2.1 dX12_isAhead_37 (by decide) ?_
      exact ho_zret C hR (Or.inl rfl) h dX12_isAhead_38
    · replace h := if_f h hc
      refine lv_aload_n C.1 C.2.1 dX12_isAhead_19 rfl (lv_at hl 0 rfl) ?_
      refine ho_getR (a' := 55) C cf12 fM_139 hR aM_0 rfl dX12_isAhead_20 ?_
      refine lv_iconst (v := (0 : Int32)) C.1 C.2.1 dX12_isAhead_23 (by decide) ?_
      obtain ⟨v2, e2, hi2, h⟩ := ldI_ok h
      refine hr_ild C hR aM_55 hi2 e2 dX12_isAhead_24 ?_
      refine lv_iload_n C.1 C.2.1 dX12_isAhead_25 rfl (lv_at hl 1 rfl) ?_
      refine lv_iadd C.1 C.2.1 dX12_isAhead_26 ?_
      refine lv_sipush (v := (999 : Int32)) C.1 C.2.1 dX12_isAhead_27 (by decide) ?_
      refine lv_icmp_gt (tgt := 37) C.1 C.2.1 dX12_isAhead_30 (by decide) (fun hc => ?_) (fun hc => ?_)
      · replace h := if_t h hc
        refine lv_iconst (v := (0 : Int32)) C.1 C.2.1 dX12_isAhead_37 (by decide) ?_
        exact ho_zret C hR (Or.inl rfl) h dX12_isAhead_38
      · replace h := if_f h hc
        refine lv_iconst (v := (1 : Int32)) C.1 C.2.1 dX12_isAhead_33 (by decide) ?_
        refine lv_goto (tgt := 38) C.1 C.2.1 dX12_isAhead_34 (by decide) ?_
        exact ho_zret C hR (Or.inr rfl) h dX12_isAhead_38
theorem dX12_storesAll_0 : decode cX12_storesAll 0 = .ok (.iconst 0, 1) := by decide +kernel
theorem dX12_storesAll_1 : decode cX12_storesAll 1 = .ok (.istore_n 1, 1) := by decide +kernel
theorem dX12_storesAll_2 : decode cX12_storesAll 2 = .ok (.iconst 0, 1) := by decide +kernel
theorem dX12_storesAll_3 : decode cX12_storesAll 3 = .ok (.istore_n 2, 1) := by decide +kernel
theorem dX12_storesAll_4 : decode cX12_storesAll 4 = .ok (.iload_n 2, 1) := by decide +kernel
theorem dX12_storesAll_5 : decode cX12_storesAll 5 = .ok (.aload_n 0, 1) := by decide +kernel
theorem dX12_storesAll_6 : decode cX12_storesAll 6 = .ok (.invokevirtual 407, 3) := by decide +kernel
theorem dX12_storesAll_9 : decode cX12_storesAll 9 = .ok (.if_icmp .ge 20, 3) := by decide +kernel
theorem dX12_storesAll_12 : decode cX12_storesAll 12 = .ok (.iload_n 1, 1) := by decide +kernel
theorem dX12_storesAll_13 : decode cX12_storesAll 13 = .ok (.aload_n 0, 1) := by decide +kernel
theorem dX12_storesAll_14 : decode cX12_storesAll 14 = .ok (.getfield 139, 3) := by decide +kernel
theorem dX12_storesAll_17 : decode cX12_storesAll 17 = .ok (.iconst 3, 1) := by decide +kernel
theorem dX12_storesAll_18 : decode cX12_storesAll 18 = .ok (.iload_n 2, 1) := by decide +kernel
theorem dX12_storesAll_19 : decode cX12_storesAll 19 = .ok (.iadd, 1) := by decide +kernel
theorem dX12_storesAll_20 : decode cX12_storesAll 20 = .ok (.iaload, 1) := by decide +kernel
theorem dX12_storesAll_21 : decode cX12_storesAll 21 = .ok (.iadd, 1) := by decide +kernel
theorem dX12_storesAll_22 : decode cX12_storesAll 22 = .ok (.istore_n 1, 1) := by decide +kernel
theorem dX12_storesAll_23 : decode cX12_storesAll 23 = .ok (.iinc 2 1, 3) := by decide +kernel
theorem dX12_storesAll_26 : decode cX12_storesAll 26 = .ok (.goto (-22), 3) := by decide +kernel
theorem dX12_storesAll_29 : decode cX12_storesAll 29 = .ok (.iload_n 1, 1) := by decide +kernel
theorem dX12_storesAll_30 : decode cX12_storesAll 30 = .ok (.ireturn, 1) := by decide +kernel
def f_X12_storesAll_4 : Nat → Int32 → Int32 → Hp → Option (Int32 × Hp)
  | 0, _, _, _ => none
  | k + 1, x1, x2, S => ob2 (f_X12_provinceMany S) (fun r1 S1 => if r1 ≤ x2 then some (x1, S1) else ldI S1 55 117 ((3 : Int32) + x2) (fun v2 => le1 (x1 + v2) (fun v3 => le1 (x2 + (1 : Int32)) (fun v4 => f_X12_storesAll_4 k v3 v4 S1))))
set_option maxHeartbeats 4000000 in
set_option maxRecDepth 100000 in
theorem w_X12_storesAll_4 {p : Program} {l : Launch} {e : Env} {s : State} {m : MethodId} {args : Array Value} {below : List Frame} {meth : Method} {c : Code} {E : Ev} {S0 : Hp} {r : (Int32 × Hp)} (C : ho_I p s m args meth c RX12 cX12_storesAll 3 (some .int)) :
    ∀ (k : Nat) (x1 : Int32) (x2 : Int32) (S : Hp), f_X12_storesAll_4 k x1 x2 S = some r → ho_G p l e s m args below meth c yM E S0 1 3 (some (.int r.1), r.2) 4 [(0, .ref (E.2.1 0)), (1, .int x1), (2, .int x2)] [] S := by
  intro k
  induction k with
  | zero =>
    intro x1 x2 S h
    exact absurd (show (none : Option (Int32 × Hp)) = some r from h) (by simp)
  | succ k ih =>
    intro x1 x2 S h H locs ls hR hl
    rw [f_X12_storesAll_4] at h
    refine lv_iload_n C.1 C.2.1 dX12_storesAll_4 rfl (lv_at hl 2 rfl) ?_
    refine lv_aload_n C.1 C.2.1 dX12_storesAll_5 rfl (lv_at hl 0 rfl) ?_
    obtain ⟨r1, S1, h1, h⟩ := ob2_ok h
    refine hr_Vi (v := r1) (S' := S1) (As := []) (rest := [.int x2]) C cf12 (c_X12_provinceMany l E _ _ h1) yv_X12_provinceMany lk_RX12_407 rfl aM_0 rfl rfl hl.1 (Nat.le_of_ble_eq_true rfl) (by decide) (by decide) hR (ho_A hR) dX12_storesAll_6 (fun H locs hR => ?_)
    refine lv_icmp_ge (tgt := 29) C.1 C.2.1 dX12_storesAll_9 (by decide) (fun hc => ?_) (fun hc => ?_)
    · replace h := if_t h hc
      refine lv_iload_n C.1 C.2.1 dX12_storesAll_29 rfl (lv_at hl 1 rfl) ?_
      exact ho_iret C hR h dX12_storesAll_30
    · replace h := if_f h hc
      refine lv_iload_n C.1 C.2.1 dX12_storesAll_12 rfl (lv_at hl 1 rfl) ?_
      refine lv_aload_n C.1 C.2.1 dX12_storesAll_13 rfl (lv_at hl 0 rfl) ?_
      refine ho_getR (a' := 55) C cf12 fM_139 hR aM_0 rfl dX12_storesAll_14 ?_
      refine lv_iconst (v := (3 : Int32)) C.1 C.2.1 dX12_storesAll_17 (by decide) ?_
      refine lv_iload_n C.1 C.2.1 dX12_storesAll_18 rfl (lv_at hl 2 rfl) ?_
      refine lv_iadd C.1 C.2.1 dX12_storesAll_19 ?_
      obtain ⟨v2, e2, hi2, h⟩ := ldI_ok h
      refine hr_ild C hR aM_55 hi2 e2 dX12_storesAll_20 ?_
      refine lv_iadd C.1 C.2.1 dX12_storesAll_21 ?_
      refine lv_topi (fun v3 e3 => ?_)
      replace h := le1_at e3 h
      refine lv_istore_n (lv' := [(1, .int v3), (0, .ref (E.2.1 0)), (2, .int x2)]) C.1 C.2.1 dX12_storesAll_22 rfl hl (by decide) rfl (fun ls hl => ?_)
      obtain ⟨v4, e4, h⟩ := le1_ok h
      refine lv_iinc (v := v4) (lv' := [(2, .int v4), (1, .int v3), (0, .ref (E.2.1 0))]) C.1 C.2.1 dX12_storesAll_23 hl (k := 2) rfl (by rw [e4]; rfl) (by decide) rfl (fun ls hl => ?_)
      refine lv_goto (tgt := 4) C.1 C.2.1 dX12_storesAll_26 (by decide) ?_
      exact ih v3 v4 S1 h _ _ _ hR (lv_sub hl [2, 1, 0] rfl)
def f_X12_storesAll (S : Hp) : Option (Int32 × Hp) :=
  f_X12_storesAll_4 5000 (0 : Int32) (0 : Int32) S
set_option maxHeartbeats 4000000 in
set_option maxRecDepth 100000 in
theorem c_X12_storesAll (l : Launch) (E : Ev) (S : Hp) (r : (Int32 × Hp)) (h : f_X12_storesAll S = some r) : ho_M l yM E yX12_storesAll cX12_storesAll 3 (some .int) 1 [.ref (E.2.1 0)] S (some (.int r.1), r.2) := by
  refine ho_in (by decide) (Nat.le_of_ble_eq_true rfl) ?_
  intro p e s m args below meth c C hR ls hl
  have C : ho_I p s m args meth c RX12 cX12_storesAll 3 (some .int) := C
  have hl : lv_has ls 3 [(0, .ref (E.2.1 0))] := hl
  unfold f_X12_storesAll at h
  refine lv_iconst (v := (0 : Int32)) C.1 C.2.1 dX12_storesAll_0 (by decide) ?_
  refine lv_istore_n (lv' := [(1, .int (0 : Int32)), (0, .ref (E.2.1 0))]) C.1 C.2.1 dX12_storesAll_1 rfl hl (by decide) rfl (fun ls hl => ?_)
  refine lv_iconst (v := (0 : Int32)) C.1 C.2.1 dX12_storesAll_2 (by decide) ?_
  refine lv_istore_n (lv' := [(2, .int (0 : Int32)), (1, .int (0 : Int32)), (0, .ref (E.2.1 0))]) C.1 C.2.1 dX12_storesAll_3 rfl hl (by decide) rfl (fun ls hl => ?_)
  exact w_X12_storesAll_4 C 5000 (0 : Int32) (0 : Int32) S h _ _ _ hR (lv_sub hl [2, 1, 0] rfl)
theorem dX12_has_0 : decode cX12_has 0 = .ok (.iload_n 1, 1) := by decide +kernel
theorem dX12_has_1 : decode cX12_has 1 = .ok (.tableswitch 108 0 10 #[59, 59, 59, 68, 68, 68, 77, 85, 90, 98, 103], 59) := by decide +kernel
theorem dX12_has_60 : decode cX12_has 60 = .ok (.aload_n 0, 1) := by decide +kernel
theorem dX12_has_61 : decode cX12_has 61 = .ok (.getfield 108, 3) := by decide +kernel
theorem dX12_has_64 : decode cX12_has 64 = .ok (.iconst 3, 1) := by decide +kernel
theorem dX12_has_65 : decode cX12_has 65 = .ok (.iload_n 1, 1) := by decide +kernel
theorem dX12_has_66 : decode cX12_has 66 = .ok (.iadd, 1) := by decide +kernel
theorem dX12_has_67 : decode cX12_has 67 = .ok (.iaload, 1) := by decide +kernel
theorem dX12_has_68 : decode cX12_has 68 = .ok (.ireturn, 1) := by decide +kernel
theorem dX12_has_69 : decode cX12_has 69 = .ok (.aload_n 0, 1) := by decide +kernel
theorem dX12_has_70 : decode cX12_has 70 = .ok (.getfield 139, 3) := by decide +kernel
theorem dX12_has_73 : decode cX12_has 73 = .ok (.iload_n 1, 1) := by decide +kernel
theorem dX12_has_74 : decode cX12_has 74 = .ok (.iconst 3, 1) := by decide +kernel
theorem dX12_has_75 : decode cX12_has 75 = .ok (.isub, 1) := by decide +kernel
theorem dX12_has_76 : decode cX12_has 76 = .ok (.iaload, 1) := by decide +kernel
theorem dX12_has_77 : decode cX12_has 77 = .ok (.ireturn, 1) := by decide +kernel
theorem dX12_has_78 : decode cX12_has 78 = .ok (.aload_n 0, 1) := by decide +kernel
theorem dX12_has_79 : decode cX12_has 79 = .ok (.invokevirtual 455, 3) := by decide +kernel
theorem dX12_has_82 : decode cX12_has 82 = .ok (.invokestatic 470, 3) := by decide +kernel
theorem dX12_has_85 : decode cX12_has 85 = .ok (.ireturn, 1) := by decide +kernel
theorem dX12_has_86 : decode cX12_has 86 = .ok (.aload_n 0, 1) := by decide +kernel
theorem dX12_has_87 : decode cX12_has 87 = .ok (.invokevirtual 523, 3) := by decide +kernel
theorem dX12_has_90 : decode cX12_has 90 = .ok (.ireturn, 1) := by decide +kernel
theorem dX12_has_91 : decode cX12_has 91 = .ok (.aload_n 0, 1) := by decide +kernel
theorem dX12_has_92 : decode cX12_has 92 = .ok (.getfield 139, 3) := by decide +kernel
theorem dX12_has_95 : decode cX12_has 95 = .ok (.bipush 26, 2) := by decide +kernel
theorem dX12_has_97 : decode cX12_has 97 = .ok (.iaload, 1) := by decide +kernel
theorem dX12_has_98 : decode cX12_has 98 = .ok (.ireturn, 1) := by decide +kernel
theorem dX12_has_99 : decode cX12_has 99 = .ok (.aload_n 0, 1) := by decide +kernel
theorem dX12_has_100 : decode cX12_has 100 = .ok (.getfield 404, 3) := by decide +kernel
theorem dX12_has_103 : decode cX12_has 103 = .ok (.ireturn, 1) := by decide +kernel
theorem dX12_has_104 : decode cX12_has 104 = .ok (.aload_n 0, 1) := by decide +kernel
theorem dX12_has_105 : decode cX12_has 105 = .ok (.getfield 401, 3) := by decide +kernel
theorem dX12_has_108 : decode cX12_has 108 = .ok (.ireturn, 1) := by decide +kernel
theorem dX12_has_109 : decode cX12_has 109 = .ok (.iconst (-1), 1) := by decide +kernel
theorem dX12_has_110 : decode cX12_has 110 = .ok (.ireturn, 1) := by decide +kernel
def f_X12_has_60 (x1 : Int32) (S : Hp) : Option (Int32 × Hp) :=
  ldI S 41 6 ((3 : Int32) + x1) (fun v1 => some (v1, S))
set_option maxHeartbeats 4000000 in
set_option maxRecDepth 100000 in
theorem w_X12_has_60 {p : Program} {l : Launch} {e : Env} {s : State} {m : MethodId} {args : Array Value} {below : List Frame} {meth : Method} {c : Code} {E : Ev} {S0 : Hp} {r : (Int32 × Hp)} (C : ho_I p s m args meth c RX12 cX12_has 2 (some .int)) :
    ∀ (x1 : Int32) (S : Hp), f_X12_has_60 x1 S = some r → ho_G p l e s m args below meth c yM E S0 2 2 (some (.int r.1), r.2) 60 [(0, .ref (E.2.1 0)), (1, .int x1)] [] S := by
  intro x1 S h H locs ls hR hl
  unfold f_X12_has_60 at h
  refine lv_aload_n C.1 C.2.1 dX12_has_60 rfl (lv_at hl 0 rfl) ?_
  refine ho_getR (a' := 41) C cf12 fM_108 hR aM_0 rfl dX12_has_61 ?_
  refine lv_iconst (v := (3 : Int32)) C.1 C.2.1 dX12_has_64 (by decide) ?_
  refine lv_iload_n C.1 C.2.1 dX12_has_65 rfl (lv_at hl 1 rfl) ?_
  refine lv_iadd C.1 C.2.1 dX12_has_66 ?_
  obtain ⟨v1, e1, hi1, h⟩ := ldI_ok h
  refine hr_ild C hR aM_41 hi1 e1 dX12_has_67 ?_
  exact ho_iret C hR h dX12_has_68
def f_X12_has_69 (x1 : Int32) (S : Hp) : Option (Int32 × Hp) :=
  ldI S 55 117 (x1 - (3 : Int32)) (fun v1 => some (v1, S))
set_option maxHeartbeats 4000000 in
set_option maxRecDepth 100000 in
theorem w_X12_has_69 {p : Program} {l : Launch} {e : Env} {s : State} {m : MethodId} {args : Array Value} {below : List Frame} {meth : Method} {c : Code} {E : Ev} {S0 : Hp} {r : (Int32 × Hp)} (C : ho_I p s m args meth c RX12 cX12_has 2 (some .int)) :
    ∀ (x1 : Int32) (S : Hp), f_X12_has_69 x1 S = some r → ho_G p l e s m args below meth c yM E S0 2 2 (some (.int r.1), r.2) 69 [(0, .ref (E.2.1 0)), (1, .int x1)] [] S := by
  intro x1 S h H locs ls hR hl
  unfold f_X12_has_69 at h
  refine lv_aload_n C.1 C.2.1 dX12_has_69 rfl (lv_at hl 0 rfl) ?_
  refine ho_getR (a' := 55) C cf12 fM_139 hR aM_0 rfl dX12_has_70 ?_
  refine lv_iload_n C.1 C.2.1 dX12_has_73 rfl (lv_at hl 1 rfl) ?_
  refine lv_iconst (v := (3 : Int32)) C.1 C.2.1 dX12_has_74 (by decide) ?_
  refine lv_isub C.1 C.2.1 dX12_has_75 ?_
  obtain ⟨v1, e1, hi1, h⟩ := ldI_ok h
  refine hr_ild C hR aM_55 hi1 e1 dX12_has_76 ?_
  exact ho_iret C hR h dX12_has_77
def f_X12_has (x1 : Int32) (S : Hp) : Option (Int32 × Hp) :=
  if x1 = (0 : Int32) then f_X12_has_60 x1 S else if x1 = (1 : Int32) then f_X12_has_60 x1 S else if x1 = (2 : Int32) then f_X12_has_60 x1 S else if x1 = (3 : Int32) then f_X12_has_69 x1 S else if x1 = (4 : Int32) then f_X12_has_69 x1 S else if x1 = (5 : Int32) then f_X12_has_69 x1 S else if x1 = (6 : Int32) then ob2 (f_X12_throughSet S) (fun r1 S1 => ob2 (f_X12_bits r1 S1) (fun r2 S2 => some (r2, S2))) else if x1 = (7 : Int32) then ob2 (f_X12_storesAll S) (fun r3 S3 => some (r3, S3)) else if x1 = (8 : Int32) then ldI S 55 117 (26 : Int32) (fun v4 => some (v4, S)) else if x1 = (9 : Int32) then some ((S.1 0 66), S) else if x1 = (10 : Int32) then some ((S.1 0 72), S) else some ((-1 : Int32), S)
set_option maxHeartbeats 4000000 in
set_option maxRecDepth 100000 in
theorem c_X12_has (l : Launch) (E : Ev) (x1 : Int32) (S : Hp) (r : (Int32 × Hp)) (h : f_X12_has x1 S = some r) : ho_M l yM E yX12_has cX12_has 2 (some .int) 2 [.ref (E.2.1 0), .int x1] S (some (.int r.1), r.2) := by
  refine ho_in (by decide) (Nat.le_of_ble_eq_true rfl) ?_
  intro p e s m args below meth c C hR ls hl
  have C : ho_I p s m args meth c RX12 cX12_has 2 (some .int) := C
  have hl : lv_has ls 2 [(0, .ref (E.2.1 0)), (1, .int x1)] := hl
  unfold f_X12_has at h
  refine lv_iload_n C.1 C.2.1 dX12_has_0 rfl (lv_at hl 1 rfl) ?_
  by_cases hc0 : x1 = (0 : Int32)
  · replace h := if_t h hc0
    have hx : (x1).toInt = 0 := by rw [hc0]; decide
    refine lv_tableIn (off := 59) (tgt := 60) C.1 C.2.1 dX12_has_1 (by rw [hx]; decide) (by rw [hx]; decide) (by rw [hx]; decide) (by decide) ?_
    exact w_X12_has_60 C x1 S h _ _ _ hR (lv_sub hl [0, 1] rfl)
  · replace h := if_f h hc0
    by_cases hc1 : x1 = (1 : Int32)
    · replace h := if_t h hc1
      have hx : (x1).toInt = 1 := by rw [hc1]; decide
      refine lv_tableIn (off := 59) (tgt := 60) C.1 C.2.1 dX12_has_1 (by rw [hx]; decide) (by rw [hx]; decide) (by rw [hx]; decide) (by decide) ?_
      exact w_X12_has_60 C x1 S h _ _ _ hR (lv_sub hl [0, 1] rfl)
    · replace h := if_f h hc1
      by_cases hc2 : x1 = (2 : Int32)
      · replace h := if_t h hc2
        have hx : (x1).toInt = 2 := by rw [hc2]; decide
        refine lv_tableIn (off := 59) (tgt := 60) C.1 C.2.1 dX12_has_1 (by rw [hx]; decide) (by rw [hx]; decide) (by rw [hx]; decide) (by decide) ?_
        exact w_X12_has_60 C x1 S h _ _ _ hR (lv_sub hl [0, 1] rfl)
      · replace h := if_f h hc2
        by_cases hc3 : x1 = (3 : Int32)
        · replace h := if_t h hc3
          have hx : (x1).toInt = 3 := by rw [hc3]; decide
          refine lv_tableIn (off := 68) (tgt := 69) C.1 C.2.1 dX12_has_1 (by rw [hx]; decide) (by rw [hx]; decide) (by rw [hx]; decide) (by decide) ?_
          exact w_X12_has_69 C x1 S h _ _ _ hR (lv_sub hl [0, 1] rfl)
        · replace h := if_f h hc3
          by_cases hc4 : x1 = (4 : Int32)
          · replace h := if_t h hc4
            have hx : (x1).toInt = 4 := by rw [hc4]; decide
            refine lv_tableIn (off := 68) (tgt := 69) C.1 C.2.1 dX12_has_1 (by rw [hx]; decide) (by rw [hx]; decide) (by rw [hx]; decide) (by decide) ?_
            exact w_X12_has_69 C x1 S h _ _ _ hR (lv_sub hl [0, 1] rfl)
          · replace h := if_f h hc4
            by_cases hc5 : x1 = (5 : Int32)
            · replace h := if_t h hc5
              have hx : (x1).toInt = 5 := by rw [hc5]; decide
              refine lv_tableIn (off := 68) (tgt := 69) C.1 C.2.1 dX12_has_1 (by rw [hx]; decide) (by rw [hx]; decide) (by rw [hx]; decide) (by decide) ?_
              exact w_X12_has_69 C x1 S h _ _ _ hR (lv_sub hl [0, 1] rfl)
            · replace h := if_f h hc5
              by_cases hc6 : x1 = (6 : Int32)
              · replace h := if_t h hc6
                have hx : (x1).toInt = 6 := by rw [hc6]; decide
                refine lv_tableIn (off := 77) (tgt := 78) C.1 C.2.1 dX12_has_1 (by rw [hx]; decide) (by rw [hx]; decide) (by rw [hx]; decide) (by decide) ?_
                refine lv_aload_n C.1 C.2.1 dX12_has_78 rfl (lv_at hl 0 rfl) ?_
                obtain ⟨r1, S1, h1, h⟩ := ob2_ok h
                refine hr_Vi (v := r1) (S' := S1) (As := []) (rest := []) C cf12 (c_X12_throughSet l E _ _ h1) yv_X12_throughSet lk_RX12_455 rfl aM_0 rfl rfl hl.1 (Nat.le_of_ble_eq_true rfl) (by decide) (by decide) hR (ho_A hR) dX12_has_79 (fun H locs hR => ?_)
                obtain ⟨r2, S2, h2, h⟩ := ob2_ok h
                refine hr_Si (v := r2) (S' := S2) (As := [.int r1]) (rest := []) C (c_X12_bits l E r1 _ _ h2) ys_X12_bits lk_RX12_470 rfl rfl hl.1 (Nat.le_of_ble_eq_true rfl) (by decide) (by decide) hR (ho_A hR) dX12_has_82 (fun H locs hR => ?_)
                exact ho_iret C hR h dX12_has_85
              · replace h := if_f h hc6
                by_cases hc7 : x1 = (7 : Int32)
                · replace h := if_t h hc7
                  have hx : (x1).toInt = 7 := by rw [hc7]; decide
                  refine lv_tableIn (off := 85) (tgt := 86) C.1 C.2.1 dX12_has_1 (by rw [hx]; decide) (by rw [hx]; decide) (by rw [hx]; decide) (by decide) ?_
                  refine lv_aload_n C.1 C.2.1 dX12_has_86 rfl (lv_at hl 0 rfl) ?_
                  obtain ⟨r3, S3, h3, h⟩ := ob2_ok h
                  refine hr_Vi (v := r3) (S' := S3) (As := []) (rest := []) C cf12 (c_X12_storesAll l E _ _ h3) yv_X12_storesAll lk_RX12_523 rfl aM_0 rfl rfl hl.1 (Nat.le_of_ble_eq_true rfl) (by decide) (by decide) hR (ho_A hR) dX12_has_87 (fun H locs hR => ?_)
                  exact ho_iret C hR h dX12_has_90
                · replace h := if_f h hc7
                  by_cases hc8 : x1 = (8 : Int32)
                  · replace h := if_t h hc8
                    have hx : (x1).toInt = 8 := by rw [hc8]; decide
                    refine lv_tableIn (off := 90) (tgt := 91) C.1 C.2.1 dX12_has_1 (by rw [hx]; decide) (by rw [hx]; decide) (by rw [hx]; decide) (by decide) ?_
                    refine lv_aload_n C.1 C.2.1 dX12_has_91 rfl (lv_at hl 0 rfl) ?_
                    refine ho_getR (a' := 55) C cf12 fM_139 hR aM_0 rfl dX12_has_92 ?_
                    refine lv_bipush (v := (26 : Int32)) C.1 C.2.1 dX12_has_95 (by decide) ?_
                    obtain ⟨v4, e4, hi4, h⟩ := ldI_ok h
                    refine hr_ild C hR aM_55 hi4 e4 dX12_has_97 ?_
                    exact ho_iret C hR h dX12_has_98
                  · replace h := if_f h hc8
                    by_cases hc9 : x1 = (9 : Int32)
                    · replace h := if_t h hc9
                      have hx : (x1).toInt = 9 := by rw [hc9]; decide
                      refine lv_tableIn (off := 98) (tgt := 99) C.1 C.2.1 dX12_has_1 (by rw [hx]; decide) (by rw [hx]; decide) (by rw [hx]; decide) (by decide) ?_
                      refine lv_aload_n C.1 C.2.1 dX12_has_99 rfl (lv_at hl 0 rfl) ?_
                      refine ho_getI C cf12 fM_404 hR aM_0 dX12_has_100 ?_
                      exact ho_iret C hR h dX12_has_103
                    · replace h := if_f h hc9
                      by_cases hc10 : x1 = (10 : Int32)
                      · replace h := if_t h hc10
                        have hx : (x1).toInt = 10 := by rw [hc10]; decide
                        refine lv_tableIn (off := 103) (tgt := 104) C.1 C.2.1 dX12_has_1 (by rw [hx]; decide) (by rw [hx]; decide) (by rw [hx]; decide) (by decide) ?_
                        refine lv_aload_n C.1 C.2.1 dX12_has_104 rfl (lv_at hl 0 rfl) ?_
                        refine ho_getI C cf12 fM_401 hR aM_0 dX12_has_105 ?_
                        exact ho_iret C hR h dX12_has_108
                      · replace h := if_f h hc10
                        have hx0 := lv_neT hc0 (a := 0) (by decide)
                        have hx1 := lv_neT hc1 (a := 1) (by decide)
                        have hx2 := lv_neT hc2 (a := 2) (by decide)
                        have hx3 := lv_neT hc3 (a := 3) (by decide)
                        have hx4 := lv_neT hc4 (a := 4) (by decide)
                        have hx5 := lv_neT hc5 (a := 5) (by decide)
                        have hx6 := lv_neT hc6 (a := 6) (by decide)
                        have hx7 := lv_neT hc7 (a := 7) (by decide)
                        have hx8 := lv_neT hc8 (a := 8) (by decide)
                        have hx9 := lv_neT hc9 (a := 9) (by decide)
                        have hx10 := lv_neT hc10 (a := 10) (by decide)
                        refine lv_tableOut (tgt := 109) C.1 C.2.1 dX12_has_1 (by omega) (by decide) ?_
                        refine lv_iconst (v := (-1 : Int32)) C.1 C.2.1 dX12_has_109 (by decide) ?_
                        exact ho_iret C hR h dX12_has_110
theorem dX12_letter_0 : decode cX12_letter 0 = .ok (.iload_n 1, 1) := by decide +kernel
theorem dX12_letter_1 : decode cX12_letter 1 = .ok (.i2l, 1) := by decide +kernel
theorem dX12_letter_2 : decode cX12_letter 2 = .ok (.lconst 0, 1) := by decide +kernel
theorem dX12_letter_3 : decode cX12_letter 3 = .ok (.ldc2_w 526, 3) := by decide +kernel
theorem dX12_letter_6 : decode cX12_letter 6 = .ok (.invokestatic 304, 3) := by decide +kernel
theorem dX12_letter_9 : decode cX12_letter 9 = .ok (.ifCond .eq 35, 3) := by decide +kernel
theorem dX12_letter_12 : decode cX12_letter 12 = .ok (.iload_n 2, 1) := by decide +kernel
theorem dX12_letter_13 : decode cX12_letter 13 = .ok (.i2l, 1) := by decide +kernel
theorem dX12_letter_14 : decode cX12_letter 14 = .ok (.lconst 0, 1) := by decide +kernel
theorem dX12_letter_15 : decode cX12_letter 15 = .ok (.aload_n 0, 1) := by decide +kernel
theorem dX12_letter_16 : decode cX12_letter 16 = .ok (.getfield 108, 3) := by decide +kernel
theorem dX12_letter_19 : decode cX12_letter 19 = .ok (.iconst 3, 1) := by decide +kernel
theorem dX12_letter_20 : decode cX12_letter 20 = .ok (.iload_n 1, 1) := by decide +kernel
theorem dX12_letter_21 : decode cX12_letter 21 = .ok (.iadd, 1) := by decide +kernel
theorem dX12_letter_22 : decode cX12_letter 22 = .ok (.iaload, 1) := by decide +kernel
theorem dX12_letter_23 : decode cX12_letter 23 = .ok (.iconst 1, 1) := by decide +kernel
theorem dX12_letter_24 : decode cX12_letter 24 = .ok (.isub, 1) := by decide +kernel
theorem dX12_letter_25 : decode cX12_letter 25 = .ok (.i2l, 1) := by decide +kernel
theorem dX12_letter_26 : decode cX12_letter 26 = .ok (.invokestatic 304, 3) := by decide +kernel
theorem dX12_letter_29 : decode cX12_letter 29 = .ok (.ifCond .eq 15, 3) := by decide +kernel
theorem dX12_letter_32 : decode cX12_letter 32 = .ok (.iload_n 3, 1) := by decide +kernel
theorem dX12_letter_33 : decode cX12_letter 33 = .ok (.i2l, 1) := by decide +kernel
theorem dX12_letter_34 : decode cX12_letter 34 = .ok (.lconst 0, 1) := by decide +kernel
theorem dX12_letter_35 : decode cX12_letter 35 = .ok (.ldc2_w 528, 3) := by decide +kernel
theorem dX12_letter_38 : decode cX12_letter 38 = .ok (.invokestatic 304, 3) := by decide +kernel
theorem dX12_letter_41 : decode cX12_letter 41 = .ok (.ifCond .ne 5, 3) := by decide +kernel
theorem dX12_letter_44 : decode cX12_letter 44 = .ok (.iconst (-1), 1) := by decide +kernel
theorem dX12_letter_45 : decode cX12_letter 45 = .ok (.ireturn, 1) := by decide +kernel
theorem dX12_letter_46 : decode cX12_letter 46 = .ok (.aload_n 0, 1) := by decide +kernel
theorem dX12_letter_47 : decode cX12_letter 47 = .ok (.getfield 111, 3) := by decide +kernel
theorem dX12_letter_50 : decode cX12_letter 50 = .ok (.bipush 18, 2) := by decide +kernel
theorem dX12_letter_52 : decode cX12_letter 52 = .ok (.bipush 6, 2) := by decide +kernel
theorem dX12_letter_54 : decode cX12_letter 54 = .ok (.iload_n 1, 1) := by decide +kernel
theorem dX12_letter_55 : decode cX12_letter 55 = .ok (.imul, 1) := by decide +kernel
theorem dX12_letter_56 : decode cX12_letter 56 = .ok (.iadd, 1) := by decide +kernel
theorem dX12_letter_57 : decode cX12_letter 57 = .ok (.iload_n 2, 1) := by decide +kernel
theorem dX12_letter_58 : decode cX12_letter 58 = .ok (.iadd, 1) := by decide +kernel
theorem dX12_letter_59 : decode cX12_letter 59 = .ok (.laload, 1) := by decide +kernel
theorem dX12_letter_60 : decode cX12_letter 60 = .ok (.lstore 4, 2) := by decide +kernel
theorem dX12_letter_62 : decode cX12_letter 62 = .ok (.iconst 0, 1) := by decide +kernel
theorem dX12_letter_63 : decode cX12_letter 63 = .ok (.istore 6, 2) := by decide +kernel
theorem dX12_letter_65 : decode cX12_letter 65 = .ok (.lload 4, 2) := by decide +kernel
theorem dX12_letter_67 : decode cX12_letter 67 = .ok (.lstore 7, 2) := by decide +kernel
theorem dX12_letter_69 : decode cX12_letter 69 = .ok (.lload 7, 2) := by decide +kernel
theorem dX12_letter_71 : decode cX12_letter 71 = .ok (.lconst 0, 1) := by decide +kernel
theorem dX12_letter_72 : decode cX12_letter 72 = .ok (.lcmp, 1) := by decide +kernel
theorem dX12_letter_73 : decode cX12_letter 73 = .ok (.ifCond .le 17, 3) := by decide +kernel
theorem dX12_letter_76 : decode cX12_letter 76 = .ok (.iinc 6 1, 3) := by decide +kernel
theorem dX12_letter_79 : decode cX12_letter 79 = .ok (.lload 7, 2) := by decide +kernel
theorem dX12_letter_81 : decode cX12_letter 81 = .ok (.ldc2_w 315, 3) := by decide +kernel
theorem dX12_letter_84 : decode cX12_letter 84 = .ok (.ldiv, 1) := by decide +kernel
theorem dX12_letter_85 : decode cX12_letter 85 = .ok (.lstore 7, 2) := by decide +kernel
theorem dX12_letter_87 : decode cX12_letter 87 = .ok (.goto (-18), 3) := by decide +kernel
theorem dX12_letter_90 : decode cX12_letter 90 = .ok (.iload_n 3, 1) := by decide +kernel
theorem dX12_letter_91 : decode cX12_letter 91 = .ok (.iload 6, 2) := by decide +kernel
theorem dX12_letter_93 : decode cX12_letter 93 = .ok (.if_icmp .lt 5, 3) := by decide +kernel
theorem dX12_letter_96 : decode cX12_letter 96 = .ok (.iconst 0, 1) := by decide +kernel
theorem dX12_letter_97 : decode cX12_letter 97 = .ok (.ireturn, 1) := by decide +kernel
theorem dX12_letter_98 : decode cX12_letter 98 = .ok (.iload 6, 2) := by decide +kernel
theorem dX12_letter_100 : decode cX12_letter 100 = .ok (.iconst 1, 1) := by decide +kernel
theorem dX12_letter_101 : decode cX12_letter 101 = .ok (.isub, 1) := by decide +kernel
theorem dX12_letter_102 : decode cX12_letter 102 = .ok (.istore 7, 2) := by decide +kernel
theorem dX12_letter_104 : decode cX12_letter 104 = .ok (.iload 7, 2) := by decide +kernel
theorem dX12_letter_106 : decode cX12_letter 106 = .ok (.iload_n 3, 1) := by decide +kernel
theorem dX12_letter_107 : decode cX12_letter 107 = .ok (.if_icmp .le 17, 3) := by decide +kernel
theorem dX12_letter_110 : decode cX12_letter 110 = .ok (.lload 4, 2) := by decide +kernel
theorem dX12_letter_112 : decode cX12_letter 112 = .ok (.ldc2_w 315, 3) := by decide +kernel
theorem dX12_letter_115 : decode cX12_letter 115 = .ok (.ldiv, 1) := by decide +kernel
theorem dX12_letter_116 : decode cX12_letter 116 = .ok (.lstore 4, 2) := by decide +kernel
theorem dX12_letter_118 : decode cX12_letter 118 = .ok (.iinc 7 (-1), 3) := by decide +kernel
theorem dX12_letter_121 : decode cX12_letter 121 = .ok (.goto (-17), 3) := by decide +kernel
theorem dX12_letter_124 : decode cX12_letter 124 = .ok (.lload 4, 2) := by decide +kernel
theorem dX12_letter_126 : decode cX12_letter 126 = .ok (.ldc2_w 315, 3) := by decide +kernel
theorem dX12_letter_129 : decode cX12_letter 129 = .ok (.lrem, 1) := by decide +kernel
theorem dX12_letter_130 : decode cX12_letter 130 = .ok (.l2i, 1) := by decide +kernel
theorem dX12_letter_131 : decode cX12_letter 131 = .ok (.ireturn, 1) := by decide +kernel
def f_X12_letter_104 : Nat → Int32 → Int64 → Int32 → Hp → Option (Int32 × Hp)
  | 0, _, _, _, _ => none
  | k + 1, x3, x4, x7, S => if x7 ≤ x3 then some (((x4 - x4 / (27 : Int64) * (27 : Int64)).toInt32), S) else le1 (x4 / (27 : Int64)) (fun v1 => le1 (x7 + (-1 : Int32)) (fun v2 => f_X12_letter_104 k x3 v1 v2 S))
set_option maxHeartbeats 4000000 in
set_option maxRecDepth 100000 in
theorem w_X12_letter_104 {p : Program} {l : Launch} {e : Env} {s : State} {m : MethodId} {args : Array Value} {below : List Frame} {meth : Method} {c : Code} {E : Ev} {S0 : Hp} {r : (Int32 × Hp)} (C : ho_I p s m args meth c RX12 cX12_letter 9 (some .int)) :
    ∀ (k : Nat) (x3 : Int32) (x4 : Int64) (x7 : Int32) (S : Hp), f_X12_letter_104 k x3 x4 x7 S = some r → ho_G p l e s m args below meth c yM E S0 1 9 (some (.int r.1), r.2) 104 [(3, .int x3), (4, .long x4), (7, .int x7)] [] S := by
  intro k
  induction k with
  | zero =>
    intro x3 x4 x7 S h
    exact absurd (show (none : Option (Int32 × Hp)) = some r from h) (by simp)
  | succ k ih =>
    intro x3 x4 x7 S h H locs ls hR hl
    rw [f_X12_letter_104] at h
    refine lv_iload C.1 C.2.1 dX12_letter_104 (lv_at hl 2 rfl) ?_
    refine lv_iload_n C.1 C.2.1 dX12_letter_106 rfl (lv_at hl 0 rfl) ?_
    refine lv_icmp_le (tgt := 124) C.1 C.2.1 dX12_letter_107 (by decide) (fun hc => ?_) (fun hc => ?_)
    · replace h := if_t h hc
      refine lv_lload C.1 C.2.1 dX12_letter_124 (lv_at hl 1 rfl) ?_
      refine lv_ldc2 (v := (27 : Int64)) C.1 C.2.1 C.2.2.2.2.1 (C.2.2.2.2.2.1 _ kc_RX12_315) dX12_letter_126 ?_
      refine lv_lrem C.1 C.2.1 dX12_letter_129 (by decide) ?_
      refine lv_l2i (v := ((x4 - x4 / (27 : Int64) * (27 : Int64)).toInt32)) C.1 C.2.1 dX12_letter_130 rfl ?_
      exact ho_iret C hR h dX12_letter_131
    · replace h := if_f h hc
      refine lv_lload C.1 C.2.1 dX12_letter_110 (lv_at hl 1 rfl) ?_
      refine lv_ldc2 (v := (27 : Int64)) C.1 C.2.1 C.2.2.2.2.1 (C.2.2.2.2.2.1 _ kc_RX12_315) dX12_letter_112 ?_
      refine lv_ldiv C.1 C.2.1 dX12_letter_115 (by decide) ?_
      refine lv_topl (fun v1 e1 => ?_)
      replace h := le1_at e1 h
      refine lv_lstore (lv' := [(4, .long v1), (3, .int x3), (7, .int x7)]) C.1 C.2.1 dX12_letter_116 hl (by decide) rfl (fun ls hl => ?_)
      obtain ⟨v2, e2, h⟩ := le1_ok h
      refine lv_iinc (v := v2) (lv' := [(7, .int v2), (4, .long v1), (3, .int x3)]) C.1 C.2.1 dX12_letter_118 hl (k := 2) rfl (by rw [e2]; rfl) (by decide) rfl (fun ls hl => ?_)
      refine lv_goto (tgt := 104) C.1 C.2.1 dX12_letter_121 (by decide) ?_
      exact ih x3 v1 v2 S h _ _ _ hR (lv_sub hl [2, 1, 0] rfl)
def f_X12_letter_69 : Nat → Int32 → Int64 → Int32 → Int64 → Hp → Option (Int32 × Hp)
  | 0, _, _, _, _, _ => none
  | k + 1, x3, x4, x6, x7, S => if (lg_cmp x7 (0 : Int64)) ≤ 0 then if x3 < x6 then le1 (x6 - (1 : Int32)) (fun v1 => f_X12_letter_104 5000 x3 x4 v1 S) else some ((0 : Int32), S) else le1 (x6 + (1 : Int32)) (fun v2 => le1 (x7 / (27 : Int64)) (fun v3 => f_X12_letter_69 k x3 x4 v2 v3 S))
set_option maxHeartbeats 4000000 in
set_option maxRecDepth 100000 in
theorem w_X12_letter_69 {p : Program} {l : Launch} {e : Env} {s : State} {m : MethodId} {args : Array Value} {below : List Frame} {meth : Method} {c : Code} {E : Ev} {S0 : Hp} {r : (Int32 × Hp)} (C : ho_I p s m args meth c RX12 cX12_letter 9 (some .int)) :
    ∀ (k : Nat) (x3 : Int32) (x4 : Int64) (x6 : Int32) (x7 : Int64) (S : Hp), f_X12_letter_69 k x3 x4 x6 x7 S = some r → ho_G p l e s m args below meth c yM E S0 1 9 (some (.int r.1), r.2) 69 [(3, .int x3), (4, .long x4), (6, .int x6), (7, .long x7)] [] S := by
  intro k
  induction k with
  | zero =>
    intro x3 x4 x6 x7 S h
    exact absurd (show (none : Option (Int32 × Hp)) = some r from h) (by simp)
  | succ k ih =>
    intro x3 x4 x6 x7 S h H locs ls hR hl
    rw [f_X12_letter_69] at h
    refine lv_lload C.1 C.2.1 dX12_letter_69 (lv_at hl 3 rfl) ?_
    refine lv_lconst (v := (0 : Int64)) C.1 C.2.1 dX12_letter_71 (by decide) ?_
    refine W.lcmp C.1 C.2.1 dX12_letter_72 ?_
    refine lv_if_le (tgt := 90) C.1 C.2.1 dX12_letter_73 (by decide) (fun hc => ?_) (fun hc => ?_)
    · replace h := if_t h hc
      refine lv_iload_n C.1 C.2.1 dX12_letter_90 rfl (lv_at hl 0 rfl) ?_
      refine lv_iload C.1 C.2.1 dX12_letter_91 (lv_at hl 2 rfl) ?_
      refine lv_icmp_lt (tgt := 98) C.1 C.2.1 dX12_letter_93 (by decide) (fun hc => ?_) (fun hc => ?_)
      · replace h := if_t h hc
        refine lv_iload C.1 C.2.1 dX12_letter_98 (lv_at hl 2 rfl) ?_
        refine lv_iconst (v := (1 : Int32)) C.1 C.2.1 dX12_letter_100 (by decide) ?_
        refine lv_isub C.1 C.2.1 dX12_letter_101 ?_
        refine lv_topi (fun v1 e1 => ?_)
        replace h := le1_at e1 h
        refine lv_istore (lv' := [(7, .int v1), (3, .int x3), (4, .long x4), (6, .int x6)]) C.1 C.2.1 dX12_letter_102 hl (by decide) rfl (fun ls hl => ?_)
        exact w_X12_letter_104 C 5000 x3 x4 v1 S h _ _ _ hR (lv_sub hl [1, 2, 0] rfl)
      · replace h := if_f h hc
        refine lv_iconst (v := (0 : Int32)) C.1 C.2.1 dX12_letter_96 (by decide) ?_
        exact ho_iret C hR h dX12_letter_97
    · replace h := if_f h hc
      obtain ⟨v2, e2, h⟩ := le1_ok h
      refine lv_iinc (v := v2) (lv' := [(6, .int v2), (3, .int x3), (4, .long x4), (7, .long x7)]) C.1 C.2.1 dX12_letter_76 hl (k := 2) rfl (by rw [e2]; rfl) (by decide) rfl (fun ls hl => ?_)
      refine lv_lload C.1 C.2.1 dX12_letter_79 (lv_at hl 3 rfl) ?_
      refine lv_ldc2 (v := (27 : Int64)) C.1 C.2.1 C.2.2.2.2.1 (C.2.2.2.2.2.1 _ kc_RX12_315) dX12_letter_81 ?_
      refine lv_ldiv C.1 C.2.1 dX12_letter_84 (by decide) ?_
      refine lv_topl (fun v3 e3 => ?_)
      replace h := le1_at e3 h
      refine lv_lstore (lv' := [(7, .long v3), (6, .int v2), (3, .int x3), (4, .long x4)]) C.1 C.2.1 dX12_letter_85 hl (by decide) rfl (fun ls hl => ?_)
      refine lv_goto (tgt := 69) C.1 C.2.1 dX12_letter_87 (by decide) ?_
      exact ih x3 x4 v2 v3 S h _ _ _ hR (lv_sub hl [2, 3, 1, 0] rfl)
def f_X12_letter (x1 : Int32) (x2 : Int32) (x3 : Int32) (S : Hp) : Option (Int32 × Hp) :=
  ob2 (f_X12_isIn (x1.toInt64) (0 : Int64) (2 : Int64) S) (fun r1 S1 => if r1 = 0 then some ((-1 : Int32), S1) else ldI S1 41 6 ((3 : Int32) + x1) (fun v2 => ob2 (f_X12_isIn (x2.toInt64) (0 : Int64) ((v2 - (1 : Int32)).toInt64) S1) (fun r3 S3 => if r3 = 0 then some ((-1 : Int32), S3) else ob2 (f_X12_isIn (x3.toInt64) (0 : Int64) (5 : Int64) S3) (fun r4 S4 => if r4 = 0 then some ((-1 : Int32), S4) else ldJ S4 42 36 (((18 : Int32) + ((6 : Int32) * x1)) + x2) (fun v5 => f_X12_letter_69 5000 x3 v5 (0 : Int32) v5 S4)))))
set_option maxHeartbeats 4000000 in
set_option maxRecDepth 100000 in
theorem c_X12_letter (l : Launch) (E : Ev) (x1 : Int32) (x2 : Int32) (x3 : Int32) (S : Hp) (r : (Int32 × Hp)) (h : f_X12_letter x1 x2 x3 S = some r) : ho_M l yM E yX12_letter cX12_letter 9 (some .int) 1 [.ref (E.2.1 0), .int x1, .int x2, .int x3] S (some (.int r.1), r.2) := by
  refine ho_in (by decide) (Nat.le_of_ble_eq_true rfl) ?_
  intro p e s m args below meth c C hR ls hl
  have C : ho_I p s m args meth c RX12 cX12_letter 9 (some .int) := C
  have hl : lv_has ls 9 [(0, .ref (E.2.1 0)), (1, .int x1), (2, .int x2), (3, .int x3)] := hl
  unfold f_X12_letter at h
  refine lv_iload_n C.1 C.2.1 dX12_letter_0 rfl (lv_at hl 1 rfl) ?_
  refine lv_i2l (v := (x1.toInt64)) C.1 C.2.1 dX12_letter_1 rfl ?_
  refine lv_lconst (v := (0 : Int64)) C.1 C.2.1 dX12_letter_2 (by decide) ?_
  refine lv_ldc2 (v := (2 : Int64)) C.1 C.2.1 C.2.2.2.2.1 (C.2.2.2.2.2.1 _ kc_RX12_526) dX12_letter_3 ?_
  obtain ⟨r1, S1, h1, h⟩ := ob2_ok h
  refine hr_Si (v := r1) (S' := S1) (As := [.long (x1.toInt64), .long (0 : Int64), .long (2 : Int64)]) (rest := []) C (c_X12_isIn l E (x1.toInt64) (0 : Int64) (2 : Int64) _ _ h1) ys_X12_isIn lk_RX12_304 rfl rfl hl.1 (Nat.le_of_ble_eq_true rfl) (by decide) (by decide) hR (ho_A hR) dX12_letter_6 (fun H locs hR => ?_)
  refine lv_if_eq (tgt := 44) C.1 C.2.1 dX12_letter_9 (by decide) (fun hc => ?_) (fun hc => ?_)
  · replace h := if_t h hc
    refine lv_iconst (v := (-1 : Int32)) C.1 C.2.1 dX12_letter_44 (by decide) ?_
    exact ho_iret C hR h dX12_letter_45
  · replace h := if_f h hc
    refine lv_iload_n C.1 C.2.1 dX12_letter_12 rfl (lv_at hl 2 rfl) ?_
    refine lv_i2l (v := (x2.toInt64)) C.1 C.2.1 dX12_letter_13 rfl ?_
    refine lv_lconst (v := (0 : Int64)) C.1 C.2.1 dX12_letter_14 (by decide) ?_
    refine lv_aload_n C.1 C.2.1 dX12_letter_15 rfl (lv_at hl 0 rfl) ?_
    refine ho_getR (a' := 41) C cf12 fM_108 hR aM_0 rfl dX12_letter_16 ?_
    refine lv_iconst (v := (3 : Int32)) C.1 C.2.1 dX12_letter_19 (by decide) ?_
    refine lv_iload_n C.1 C.2.1 dX12_letter_20 rfl (lv_at hl 1 rfl) ?_
    refine lv_iadd C.1 C.2.1 dX12_letter_21 ?_
    obtain ⟨v2, e2, hi2, h⟩ := ldI_ok h
    refine hr_ild C hR aM_41 hi2 e2 dX12_letter_22 ?_
    refine lv_iconst (v := (1 : Int32)) C.1 C.2.1 dX12_letter_23 (by decide) ?_
    refine lv_isub C.1 C.2.1 dX12_letter_24 ?_
    refine lv_i2l (v := ((v2 - (1 : Int32)).toInt64)) C.1 C.2.1 dX12_letter_25 rfl ?_
    obtain ⟨r3, S3, h3, h⟩ := ob2_ok h
    refine hr_Si (v := r3) (S' := S3) (As := [.long (x2.toInt64), .long (0 : Int64), .long ((v2 - (1 : Int32)).toInt64)]) (rest := []) C (c_X12_isIn l E (x2.toInt64) (0 : Int64) ((v2 - (1 : Int32)).toInt64) _ _ h3) ys_X12_isIn lk_RX12_304 rfl rfl hl.1 (Nat.le_of_ble_eq_true rfl) (by decide) (by decide) hR (ho_A hR) dX12_letter_26 (fun H locs hR => ?_)
    refine lv_if_eq (tgt := 44) C.1 C.2.1 dX12_letter_29 (by decide) (fun hc => ?_) (fun hc => ?_)
    · replace h := if_t h hc
      refine lv_iconst (v := (-1 : Int32)) C.1 C.2.1 dX12_letter_44 (by decide) ?_
      exact ho_iret C hR h dX12_letter_45
    · replace h := if_f h hc
      refine lv_iload_n C.1 C.2.1 dX12_letter_32 rfl (lv_at hl 3 rfl) ?_
      refine lv_i2l (v := (x3.toInt64)) C.1 C.2.1 dX12_letter_33 rfl ?_
      refine lv_lconst (v := (0 : Int64)) C.1 C.2.1 dX12_letter_34 (by decide) ?_
      refine lv_ldc2 (v := (5 : Int64)) C.1 C.2.1 C.2.2.2.2.1 (C.2.2.2.2.2.1 _ kc_RX12_528) dX12_letter_35 ?_
      obtain ⟨r4, S4, h4, h⟩ := ob2_ok h
      refine hr_Si (v := r4) (S' := S4) (As := [.long (x3.toInt64), .long (0 : Int64), .long (5 : Int64)]) (rest := []) C (c_X12_isIn l E (x3.toInt64) (0 : Int64) (5 : Int64) _ _ h4) ys_X12_isIn lk_RX12_304 rfl rfl hl.1 (Nat.le_of_ble_eq_true rfl) (by decide) (by decide) hR (ho_A hR) dX12_letter_38 (fun H locs hR => ?_)
      refine lv_if_ne (tgt := 46) C.1 C.2.1 dX12_letter_41 (by decide) (fun hc => ?_) (fun hc => ?_)
      · replace h := if_f h hc
        refine lv_aload_n C.1 C.2.1 dX12_letter_46 rfl (lv_at hl 0 rfl) ?_
        refine ho_getR (a' := 42) C cf12 fM_111 hR aM_0 rfl dX12_letter_47 ?_
        refine lv_bipush (v := (18 : Int32)) C.1 C.2.1 dX12_letter_50 (by decide) ?_
        refine lv_bipush (v := (6 : Int32)) C.1 C.2.1 dX12_letter_52 (by decide) ?_
        refine lv_iload_n C.1 C.2.1 dX12_letter_54 rfl (lv_at hl 1 rfl) ?_
        refine lv_imul C.1 C.2.1 dX12_letter_55 ?_
        refine lv_iadd C.1 C.2.1 dX12_letter_56 ?_
        refine lv_iload_n C.1 C.2.1 dX12_letter_57 rfl (lv_at hl 2 rfl) ?_
        refine lv_iadd C.1 C.2.1 dX12_letter_58 ?_
        obtain ⟨v5, e5, hi5, h⟩ := ldJ_ok h
        refine hr_lld C hR aM_42 hi5 e5 dX12_letter_59 ?_
        refine lv_lstore (lv' := [(4, .long v5), (0, .ref (E.2.1 0)), (1, .int x1), (2, .int x2), (3, .int x3)]) C.1 C.2.1 dX12_letter_60 hl (by decide) rfl (fun ls hl => ?_)
        refine lv_iconst (v := (0 : Int32)) C.1 C.2.1 dX12_letter_62 (by decide) ?_
        refine lv_istore (lv' := [(6, .int (0 : Int32)), (4, .long v5), (0, .ref (E.2.1 0)), (1, .int x1), (2, .int x2), (3, .int x3)]) C.1 C.2.1 dX12_letter_63 hl (by decide) rfl (fun ls hl => ?_)
        refine lv_lload C.1 C.2.1 dX12_letter_65 (lv_at hl 1 rfl) ?_
        refine lv_lstore (lv' := [(7, .long v5), (6, .int (0 : Int32)), (4, .long v5), (0, .ref (E.2.1 0)), (1, .int x1), (2, .int x2), (3, .int x3)]) C.1 C.2.1 dX12_letter_67 hl (by decide) rfl (fun ls hl => ?_)
        exact w_X12_letter_69 C 5000 x3 v5 (0 : Int32) v5 S4 h _ _ _ hR (lv_sub hl [6, 2, 1, 0] rfl)
      · replace h := if_t h hc
        refine lv_iconst (v := (-1 : Int32)) C.1 C.2.1 dX12_letter_44 (by decide) ?_
        exact ho_iret C hR h dX12_letter_45
theorem dX12_province_0 : decode cX12_province 0 = .ok (.aload_n 0, 1) := by decide +kernel
theorem dX12_province_1 : decode cX12_province 1 = .ok (.iload_n 1, 1) := by decide +kernel
theorem dX12_province_2 : decode cX12_province 2 = .ok (.invokevirtual 530, 3) := by decide +kernel
theorem dX12_province_5 : decode cX12_province 5 = .ok (.ifCond .ne 5, 3) := by decide +kernel
theorem dX12_province_8 : decode cX12_province 8 = .ok (.iconst (-1), 1) := by decide +kernel
theorem dX12_province_9 : decode cX12_province 9 = .ok (.ireturn, 1) := by decide +kernel
theorem dX12_province_10 : decode cX12_province 10 = .ok (.iconst 0, 1) := by decide +kernel
theorem dX12_province_11 : decode cX12_province 11 = .ok (.istore_n 3, 1) := by decide +kernel
theorem dX12_province_12 : decode cX12_province 12 = .ok (.iconst 0, 1) := by decide +kernel
theorem dX12_province_13 : decode cX12_province 13 = .ok (.istore 4, 2) := by decide +kernel
theorem dX12_province_15 : decode cX12_province 15 = .ok (.iload 4, 2) := by decide +kernel
theorem dX12_province_17 : decode cX12_province 17 = .ok (.aload_n 0, 1) := by decide +kernel
theorem dX12_province_18 : decode cX12_province 18 = .ok (.invokevirtual 410, 3) := by decide +kernel
theorem dX12_province_21 : decode cX12_province 21 = .ok (.if_icmp .ge 32, 3) := by decide +kernel
theorem dX12_province_24 : decode cX12_province 24 = .ok (.aload_n 0, 1) := by decide +kernel
theorem dX12_province_25 : decode cX12_province 25 = .ok (.getfield 121, 3) := by decide +kernel
theorem dX12_province_28 : decode cX12_province 28 = .ok (.bipush 19, 2) := by decide +kernel
theorem dX12_province_30 : decode cX12_province 30 = .ok (.iconst 3, 1) := by decide +kernel
theorem dX12_province_31 : decode cX12_province 31 = .ok (.iload 4, 2) := by decide +kernel
theorem dX12_province_33 : decode cX12_province 33 = .ok (.imul, 1) := by decide +kernel
theorem dX12_province_34 : decode cX12_province 34 = .ok (.iadd, 1) := by decide +kernel
theorem dX12_province_35 : decode cX12_province 35 = .ok (.iaload, 1) := by decide +kernel
theorem dX12_province_36 : decode cX12_province 36 = .ok (.iload_n 1, 1) := by decide +kernel
theorem dX12_province_37 : decode cX12_province 37 = .ok (.if_icmp .ne 10, 3) := by decide +kernel
theorem dX12_province_40 : decode cX12_province 40 = .ok (.iload_n 3, 1) := by decide +kernel
theorem dX12_province_41 : decode cX12_province 41 = .ok (.iconst 1, 1) := by decide +kernel
theorem dX12_province_42 : decode cX12_province 42 = .ok (.iload 4, 2) := by decide +kernel
theorem dX12_province_44 : decode cX12_province 44 = .ok (.ishl, 1) := by decide +kernel
theorem dX12_province_45 : decode cX12_province 45 = .ok (.ior, 1) := by decide +kernel
theorem dX12_province_46 : decode cX12_province 46 = .ok (.istore_n 3, 1) := by decide +kernel
theorem dX12_province_47 : decode cX12_province 47 = .ok (.iinc 4 1, 3) := by decide +kernel
theorem dX12_province_50 : decode cX12_province 50 = .ok (.goto (-35), 3) := by decide +kernel
theorem dX12_province_53 : decode cX12_province 53 = .ok (.iload_n 2, 1) := by decide +kernel
theorem dX12_province_54 : decode cX12_province 54 = .ok (.ifCond .ne 14, 3) := by decide +kernel
theorem dX12_province_57 : decode cX12_province 57 = .ok (.aload_n 0, 1) := by decide +kernel
theorem dX12_province_58 : decode cX12_province 58 = .ok (.getfield 139, 3) := by decide +kernel
theorem dX12_province_61 : decode cX12_province 61 = .ok (.iconst 3, 1) := by decide +kernel
theorem dX12_province_62 : decode cX12_province 62 = .ok (.iload_n 1, 1) := by decide +kernel
theorem dX12_province_63 : decode cX12_province 63 = .ok (.iadd, 1) := by decide +kernel
theorem dX12_province_64 : decode cX12_province 64 = .ok (.iaload, 1) := by decide +kernel
theorem dX12_province_65 : decode cX12_province 65 = .ok (.goto 32, 3) := by decide +kernel
theorem dX12_province_68 : decode cX12_province 68 = .ok (.iload_n 2, 1) := by decide +kernel
theorem dX12_province_69 : decode cX12_province 69 = .ok (.iconst 1, 1) := by decide +kernel
theorem dX12_province_70 : decode cX12_province 70 = .ok (.if_icmp .ne 17, 3) := by decide +kernel
theorem dX12_province_73 : decode cX12_province 73 = .ok (.aload_n 0, 1) := by decide +kernel
theorem dX12_province_74 : decode cX12_province 74 = .ok (.getfield 118, 3) := by decide +kernel
theorem dX12_province_77 : decode cX12_province 77 = .ok (.bipush 13, 2) := by decide +kernel
theorem dX12_province_79 : decode cX12_province 79 = .ok (.iconst 2, 1) := by decide +kernel
theorem dX12_province_80 : decode cX12_province 80 = .ok (.iload_n 1, 1) := by decide +kernel
theorem dX12_province_81 : decode cX12_province 81 = .ok (.imul, 1) := by decide +kernel
theorem dX12_province_82 : decode cX12_province 82 = .ok (.iadd, 1) := by decide +kernel
theorem dX12_province_83 : decode cX12_province 83 = .ok (.iaload, 1) := by decide +kernel
theorem dX12_province_84 : decode cX12_province 84 = .ok (.goto 13, 3) := by decide +kernel
theorem dX12_province_87 : decode cX12_province 87 = .ok (.iload_n 2, 1) := by decide +kernel
theorem dX12_province_88 : decode cX12_province 88 = .ok (.iconst 2, 1) := by decide +kernel
theorem dX12_province_89 : decode cX12_province 89 = .ok (.if_icmp .ne 7, 3) := by decide +kernel
theorem dX12_province_92 : decode cX12_province 92 = .ok (.iload_n 3, 1) := by decide +kernel
theorem dX12_province_93 : decode cX12_province 93 = .ok (.goto 4, 3) := by decide +kernel
theorem dX12_province_96 : decode cX12_province 96 = .ok (.iconst (-1), 1) := by decide +kernel
theorem dX12_province_97 : decode cX12_province 97 = .ok (.ireturn, 1) := by decide +kernel
def f_X12_province_47 (K15 : Int32 → Int32 → Int32 → Int32 → Hp → Option (Int32 × Hp)) (x1 : Int32) (x2 : Int32) (x3 : Int32) (x4 : Int32) (S : Hp) : Option (Int32 × Hp) :=
  le1 (x4 + (1 : Int32)) (fun v1 => K15 x1 x2 x3 v1 S)
set_option maxHeartbeats 4000000 in
set_option maxRecDepth 100000 in
theorem w_X12_province_47 {p : Program} {l : Launch} {e : Env} {s : State} {m : MethodId} {args : Array Value} {below : List Frame} {meth : Method} {c : Code} {E : Ev} {S0 : Hp} {r : (Int32 × Hp)} (C : ho_I p s m args meth c RX12 cX12_province 5 (some .int)) (K15 : Int32 → Int32 → Int32 → Int32 → Hp → Option (Int32 × Hp)) (hK15 : ∀ (y1 : Int32) (y2 : Int32) (y3 : Int32) (y4 : Int32) (S : Hp), K15 y1 y2 y3 y4 S = some r → ho_G p l e s m args below meth c yM E S0 2 5 (some (.int r.1), r.2) 15 [(0, .ref (E.2.1 0)), (1, .int y1), (2, .int y2), (3, .int y3), (4, .int y4)] [] S) :
    ∀ (x1 : Int32) (x2 : Int32) (x3 : Int32) (x4 : Int32) (S : Hp), f_X12_province_47 K15 x1 x2 x3 x4 S = some r → ho_G p l e s m args below meth c yM E S0 2 5 (some (.int r.1), r.2) 47 [(0, .ref (E.2.1 0)), (1, .int x1), (2, .int x2), (3, .int x3), (4, .int x4)] [] S := by
  intro x1 x2 x3 x4 S h H locs ls hR hl
  unfold f_X12_province_47 at h
  obtain ⟨v1, e1, h⟩ := le1_ok h
  refine lv_iinc (v := v1) (lv' := [(4, .int v1), (0, .ref (E.2.1 0)), (1, .int x1), (2, .int x2), (3, .int x3)]) C.1 C.2.1 dX12_province_47 hl (k := 4) rfl (by rw [e1]; rfl) (by decide) rfl (fun ls hl => ?_)
  refine lv_goto (tgt := 15) C.1 C.2.1 dX12_province_50 (by decide) ?_
  exact hK15 x1 x2 x3 v1 S h _ _ _ hR (lv_sub hl [1, 2, 3, 4, 0] rfl)
def f_X12_province_15 : Nat → Int32 → Int32 → Int32 → Int32 → Hp → Option (Int32 × Hp)
  | 0, _, _, _, _, _ => none
  | k + 1, x1, x2, x3, x4, S => ob2 (f_X12_trickMany S) (fun r1 S1 => if r1 ≤ x4 then if x2 = 0 then ldI S1 55 117 ((3 : Int32) + x1) (fun v3 => some (v3, S1)) else if x2 = (1 : Int32) then ldI S1 44 24 ((13 : Int32) + ((2 : Int32) * x1)) (fun v2 => some (v2, S1)) else if x2 = (2 : Int32) then some (x3, S1) else some ((-1 : Int32), S1) else ldI S1 45 36 ((19 : Int32) + ((3 : Int32) * x4)) (fun v4 => if v4 = x1 then le1 (x3 ||| ((1 : Int32) <<< (x4 &&& 31))) (fun v5 => f_X12_province_47 (f_X12_province_15 k) x1 x2 v5 x4 S1) else f_X12_province_47 (f_X12_province_15 k) x1 x2 x3 x4 S1))
set_option maxHeartbeats 4000000 in
set_option maxRecDepth 100000 in
theorem w_X12_province_15 {p : Program} {l : Launch} {e : Env} {s : State} {m : MethodId} {args : Array Value} {below : List Frame} {meth : Method} {c : Code} {E : Ev} {S0 : Hp} {r : (Int32 × Hp)} (C : ho_I p s m args meth c RX12 cX12_province 5 (some .int)) :
    ∀ (k : Nat) (x1 : Int32) (x2 : Int32) (x3 : Int32) (x4 : Int32) (S : Hp), f_X12_province_15 k x1 x2 x3 x4 S = some r → ho_G p l e s m args below meth c yM E S0 2 5 (some (.int r.1), r.2) 15 [(0, .ref (E.2.1 0)), (1, .int x1), (2, .int x2), (3, .int x3), (4, .int x4)] [] S := by
  intro k
  induction k with
  | zero =>
    intro x1 x2 x3 x4 S h
    exact absurd (show (none : Option (Int32 × Hp)) = some r from h) (by simp)
  | succ k ih =>
    intro x1 x2 x3 x4 S h H locs ls hR hl
    rw [f_X12_province_15] at h
    refine lv_iload C.1 C.2.1 dX12_province_15 (lv_at hl 4 rfl) ?_
    refine lv_aload_n C.1 C.2.1 dX12_province_17 rfl (lv_at hl 0 rfl) ?_
    obtain ⟨r1, S1, h1, h⟩ := ob2_ok h
    refine hr_Vi (v := r1) (S' := S1) (As := []) (rest := [.int x4]) C cf12 (c_X12_trickMany l E _ _ h1) yv_X12_trickMany lk_RX12_410 rfl aM_0 rfl rfl hl.1 (Nat.le_of_ble_eq_true rfl) (by decide) (by decide) hR (ho_A hR) dX12_province_18 (fun H locs hR => ?_)
    refine lv_icmp_ge (tgt := 53) C.1 C.2.1 dX12_province_21 (by decide) (fun hc => ?_) (fun hc => ?_)
    · replace h := if_t h hc
      refine lv_iload_n C.1 C.2.1 dX12_province_53 rfl (lv_at hl 2 rfl) ?_
      refine lv_if_ne (tgt := 68) C.1 C.2.1 dX12_province_54 (by decide) (fun hc => ?_) (fun hc => ?_)
      · replace h := if_f h hc
        refine lv_iload_n C.1 C.2.1 dX12_province_68 rfl (lv_at hl 2 rfl) ?_
        refine lv_iconst (v := (1 : Int32)) C.1 C.2.1 dX12_province_69 (by decide) ?_
        refine lv_icmp_ne (tgt := 87) C.1 C.2.1 dX12_province_70 (by decide) (fun hc => ?_) (fun hc => ?_)
        · replace h := if_f h hc
          refine lv_iload_n C.1 C.2.1 dX12_province_87 rfl (lv_at hl 2 rfl) ?_
          refine lv_iconst (v := (2 : Int32)) C.1 C.2.1 dX12_province_88 (by decide) ?_
          refine lv_icmp_ne (tgt := 96) C.1 C.2.1 dX12_province_89 (by decide) (fun hc => ?_) (fun hc => ?_)
          · replace h := if_f h hc
            refine lv_iconst (v := (-1 : Int32)) C.1 C.2.1 dX12_province_96 (by decide) ?_
            exact ho_iret C hR h dX12_province_97
          · replace h := if_t h hc
            refine lv_iload_n C.1 C.2.1 dX12_province_92 rfl (lv_at hl 3 rfl) ?_
            refine lv_goto (tgt := 97) C.1 C.2.1 dX12_province_93 (by decide) ?_
            exact ho_iret C hR h dX12_province_97
        · replace h := if_t h hc
          refine lv_aload_n C.1 C.2.1 dX12_province_73 rfl (lv_at hl 0 rfl) ?_
          refine ho_getR (a' := 44) C cf12 fM_118 hR aM_0 rfl dX12_province_74 ?_
          refine lv_bipush (v := (13 : Int32)) C.1 C.2.1 dX12_province_77 (by decide) ?_
          refine lv_iconst (v := (2 : Int32)) C.1 C.2.1 dX12_province_79 (by decide) ?_
          refine lv_iload_n C.1 C.2.1 dX12_province_80 rfl (lv_at hl 1 rfl) ?_
          refine lv_imul C.1 C.2.1 dX12_province_81 ?_
          refine lv_iadd C.1 C.2.1 dX12_province_82 ?_
          obtain ⟨v2, e2, hi2, h⟩ := ldI_ok h
          refine hr_ild C hR aM_44 hi2 e2 dX12_province_83 ?_
          refine lv_goto (tgt := 97) C.1 C.2.1 dX12_province_84 (by decide) ?_
          exact ho_iret C hR h dX12_province_97
      · replace h := if_t h hc
        refine lv_aload_n C.1 C.2.1 dX12_province_57 rfl (lv_at hl 0 rfl) ?_
        refine ho_getR (a' := 55) C cf12 fM_139 hR aM_0 rfl dX12_province_58 ?_
        refine lv_iconst (v := (3 : Int32)) C.1 C.2.1 dX12_province_61 (by decide) ?_
        refine lv_iload_n C.1 C.2.1 dX12_province_62 rfl (lv_at hl 1 rfl) ?_
        refine lv_iadd C.1 C.2.1 dX12_province_63 ?_
        obtain ⟨v3, e3, hi3, h⟩ := ldI_ok h
        refine hr_ild C hR aM_55 hi3 e3 dX12_province_64 ?_
        refine lv_goto (tgt := 97) C.1 C.2.1 dX12_province_65 (by decide) ?_
        exact ho_iret C hR h dX12_province_97
    · replace h := if_f h hc
      refine lv_aload_n C.1 C.2.1 dX12_province_24 rfl (lv_at hl 0 rfl) ?_
      refine ho_getR (a' := 45) C cf12 fM_121 hR aM_0 rfl dX12_province_25 ?_
      refine lv_bipush (v := (19 : Int32)) C.1 C.2.1 dX12_province_28 (by decide) ?_
      refine lv_iconst (v := (3 : Int32)) C.1 C.2.1 dX12_province_30 (by decide) ?_
      refine lv_iload C.1 C.2.1 dX12_province_31 (lv_at hl 4 rfl) ?_
      refine lv_imul C.1 C.2.1 dX12_province_33 ?_
      refine lv_iadd C.1 C.2.1 dX12_province_34 ?_
      obtain ⟨v4, e4, hi4, h⟩ := ldI_ok h
      refine hr_ild C hR aM_45 hi4 e4 dX12_province_35 ?_
      refine lv_iload_n C.1 C.2.1 dX12_province_36 rfl (lv_at hl 1 rfl) ?_
      refine lv_icmp_ne (tgt := 47) C.1 C.2.1 dX12_province_37 (by decide) (fun hc => ?_) (fun hc => ?_)
      · replace h := if_f h hc
        exact w_X12_province_47 C (f_X12_province_15 k) ih x1 x2 x3 x4 S1 h _ _ _ hR (lv_sub hl [0, 1, 2, 3, 4] rfl)
      · replace h := if_t h hc
        refine lv_iload_n C.1 C.2.1 dX12_province_40 rfl (lv_at hl 3 rfl) ?_
        refine lv_iconst (v := (1 : Int32)) C.1 C.2.1 dX12_province_41 (by decide) ?_
        refine lv_iload C.1 C.2.1 dX12_province_42 (lv_at hl 4 rfl) ?_
        refine lv_ishl C.1 C.2.1 dX12_province_44 ?_
        refine lv_ior C.1 C.2.1 dX12_province_45 ?_
        refine lv_topi (fun v5 e5 => ?_)
        replace h := le1_at e5 h
        refine lv_istore_n (lv' := [(3, .int v5), (0, .ref (E.2.1 0)), (1, .int x1), (2, .int x2), (4, .int x4)]) C.1 C.2.1 dX12_province_46 rfl hl (by decide) rfl (fun ls hl => ?_)
        exact w_X12_province_47 C (f_X12_province_15 k) ih x1 x2 v5 x4 S1 h _ _ _ hR (lv_sub hl [1, 2, 3, 0, 4] rfl)
def f_X12_province (x1 : Int32) (x2 : Int32) (S : Hp) : Option (Int32 × Hp) :=
  ob2 (f_X12_isProvince x1 S) (fun r1 S1 => if r1 = 0 then some ((-1 : Int32), S1) else f_X12_province_15 5000 x1 x2 (0 : Int32) (0 : Int32) S1)
set_option maxHeartbeats 4000000 in
set_option maxRecDepth 100000 in
theorem c_X12_province (l : Launch) (E : Ev) (x1 : Int32) (x2 : Int32) (S : Hp) (r : (Int32 × Hp)) (h : f_X12_province x1 x2 S = some r) : ho_M l yM E yX12_province cX12_province 5 (some .int) 2 [.ref (E.2.1 0), .int x1, .int x2] S (some (.int r.1), r.2) := by
  refine ho_in (by decide) (Nat.le_of_ble_eq_true rfl) ?_
  intro p e s m args below meth c C hR ls hl
  have C : ho_I p s m args meth c RX12 cX12_province 5 (some .int) := C
  have hl : lv_has ls 5 [(0, .ref (E.2.1 0)), (1, .int x1), (2, .int x2)] := hl
  unfold f_X12_province at h
  refine lv_aload_n C.1 C.2.1 dX12_province_0 rfl (lv_at hl 0 rfl) ?_
  refine lv_iload_n C.1 C.2.1 dX12_province_1 rfl (lv_at hl 1 rfl) ?_
  obtain ⟨r1, S1, h1, h⟩ := ob2_ok h
  refine hr_Vi (v := r1) (S' := S1) (As := [.int x1]) (rest := []) C cf12 (c_X12_isProvince l E x1 _ _ h1) yv_X12_isProvince lk_RX12_530 rfl aM_0 rfl rfl hl.1 (Nat.le_of_ble_eq_true rfl) (by decide) (by decide) hR (ho_A hR) dX12_province_2 (fun H locs hR => ?_)
  refine lv_if_ne (tgt := 10) C.1 C.2.1 dX12_province_5 (by decide) (fun hc => ?_) (fun hc => ?_)
  · replace h := if_f h hc
    refine lv_iconst (v := (0 : Int32)) C.1 C.2.1 dX12_province_10 (by decide) ?_
    refine lv_istore_n (lv' := [(3, .int (0 : Int32)), (0, .ref (E.2.1 0)), (1, .int x1), (2, .int x2)]) C.1 C.2.1 dX12_province_11 rfl hl (by decide) rfl (fun ls hl => ?_)
    refine lv_iconst (v := (0 : Int32)) C.1 C.2.1 dX12_province_12 (by decide) ?_
    refine lv_istore (lv' := [(4, .int (0 : Int32)), (3, .int (0 : Int32)), (0, .ref (E.2.1 0)), (1, .int x1), (2, .int x2)]) C.1 C.2.1 dX12_province_13 hl (by decide) rfl (fun ls hl => ?_)
    exact w_X12_province_15 C 5000 x1 x2 (0 : Int32) (0 : Int32) S1 h _ _ _ hR (lv_sub hl [2, 3, 4, 1, 0] rfl)
  · replace h := if_t h hc
    refine lv_iconst (v := (-1 : Int32)) C.1 C.2.1 dX12_province_8 (by decide) ?_
    exact ho_iret C hR h dX12_province_9
theorem dX12_trick_0 : decode cX12_trick 0 = .ok (.aload_n 0, 1) := by decide +kernel
theorem dX12_trick_1 : decode cX12_trick 1 = .ok (.iload_n 1, 1) := by decide +kernel
theorem dX12_trick_2 : decode cX12_trick 2 = .ok (.invokevirtual 533, 3) := by decide +kernel
theorem dX12_trick_5 : decode cX12_trick 5 = .ok (.ifCond .ne 5, 3) := by decide +kernel
theorem dX12_trick_8 : decode cX12_trick 8 = .ok (.iconst (-1), 1) := by decide +kernel
theorem dX12_trick_9 : decode cX12_trick 9 = .ok (.ireturn, 1) := by decide +kernel
theorem dX12_trick_10 : decode cX12_trick 10 = .ok (.iload_n 2, 1) := by decide +kernel
theorem dX12_trick_11 : decode cX12_trick 11 = .ok (.tableswitch 69 0 5 #[37, 37, 37, 51, 57, 63], 37) := by decide +kernel
theorem dX12_trick_48 : decode cX12_trick 48 = .ok (.aload_n 0, 1) := by decide +kernel
theorem dX12_trick_49 : decode cX12_trick 49 = .ok (.getfield 121, 3) := by decide +kernel
theorem dX12_trick_52 : decode cX12_trick 52 = .ok (.bipush 18, 2) := by decide +kernel
theorem dX12_trick_54 : decode cX12_trick 54 = .ok (.iconst 3, 1) := by decide +kernel
theorem dX12_trick_55 : decode cX12_trick 55 = .ok (.iload_n 1, 1) := by decide +kernel
theorem dX12_trick_56 : decode cX12_trick 56 = .ok (.imul, 1) := by decide +kernel
theorem dX12_trick_57 : decode cX12_trick 57 = .ok (.iadd, 1) := by decide +kernel
theorem dX12_trick_58 : decode cX12_trick 58 = .ok (.iload_n 2, 1) := by decide +kernel
theorem dX12_trick_59 : decode cX12_trick 59 = .ok (.iadd, 1) := by decide +kernel
theorem dX12_trick_60 : decode cX12_trick 60 = .ok (.iaload, 1) := by decide +kernel
theorem dX12_trick_61 : decode cX12_trick 61 = .ok (.ireturn, 1) := by decide +kernel
theorem dX12_trick_62 : decode cX12_trick 62 = .ok (.aload_n 0, 1) := by decide +kernel
theorem dX12_trick_63 : decode cX12_trick 63 = .ok (.iload_n 1, 1) := by decide +kernel
theorem dX12_trick_64 : decode cX12_trick 64 = .ok (.invokevirtual 536, 3) := by decide +kernel
theorem dX12_trick_67 : decode cX12_trick 67 = .ok (.ireturn, 1) := by decide +kernel
theorem dX12_trick_68 : decode cX12_trick 68 = .ok (.aload_n 0, 1) := by decide +kernel
theorem dX12_trick_69 : decode cX12_trick 69 = .ok (.iload_n 1, 1) := by decide +kernel
theorem dX12_trick_70 : decode cX12_trick 70 = .ok (.invokevirtual 449, 3) := by decide +kernel
theorem dX12_trick_73 : decode cX12_trick 73 = .ok (.ireturn, 1) := by decide +kernel
theorem dX12_trick_74 : decode cX12_trick 74 = .ok (.aload_n 0, 1) := by decide +kernel
theorem dX12_trick_75 : decode cX12_trick 75 = .ok (.iload_n 1, 1) := by decide +kernel
theorem dX12_trick_76 : decode cX12_trick 76 = .ok (.invokevirtual 461, 3) := by decide +kernel
theorem dX12_trick_79 : decode cX12_trick 79 = .ok (.ireturn, 1) := by decide +kernel
theorem dX12_trick_80 : decode cX12_trick 80 = .ok (.iconst (-1), 1) := by decide +kernel
theorem dX12_trick_81 : decode cX12_trick 81 = .ok (.ireturn, 1) := by decide +kernel
def f_X12_trick_48 (x1 : Int32) (x2 : Int32) (S : Hp) : Option (Int32 × Hp) :=
  ldI S 45 36 (((18 : Int32) + ((3 : Int32) * x1)) + x2) (fun v1 => some (v1, S))
set_option maxHeartbeats 4000000 in
set_option maxRecDepth 100000 in
theorem w_X12_trick_48 {p : Program} {l : Launch} {e : Env} {s : State} {m : MethodId} {args : Array Value} {below : List Frame} {meth : Method} {c : Code} {E : Ev} {S0 : Hp} {r : (Int32 × Hp)} (C : ho_I p s m args meth c RX12 cX12_trick 3 (some .int)) :
    ∀ (x1 : Int32) (x2 : Int32) (S : Hp), f_X12_trick_48 x1 x2 S = some r → ho_G p l e s m args below meth c yM E S0 5 3 (some (.int r.1), r.2) 48 [(0, .ref (E.2.1 0)), (1, .int x1), (2, .int x2)] [] S := by
  intro x1 x2 S h H locs ls hR hl
  unfold f_X12_trick_48 at h
  refine lv_aload_n C.1 C.2.1 dX12_trick_48 rfl (lv_at hl 0 rfl) ?_
  refine ho_getR (a' := 45) C cf12 fM_121 hR aM_0 rfl dX12_trick_49 ?_
  refine lv_bipush (v := (18 : Int32)) C.1 C.2.1 dX12_trick_52 (by decide) ?_
  refine lv_iconst (v := (3 : Int32)) C.1 C.2.1 dX12_trick_54 (by decide) ?_
  refine lv_iload_n C.1 C.2.1 dX12_trick_55 rfl (lv_at hl 1 rfl) ?_
  refine lv_imul C.1 C.2.1 dX12_trick_56 ?_
  refine lv_iadd C.1 C.2.1 dX12_trick_57 ?_
  refine lv_iload_n C.1 C.2.1 dX12_trick_58 rfl (lv_at hl 2 rfl) ?_
  refine lv_iadd C.1 C.2.1 dX12_trick_59 ?_
  obtain ⟨v1, e1, hi1, h⟩ := ldI_ok h
  refine hr_ild C hR aM_45 hi1 e1 dX12_trick_60 ?_
  exact ho_iret C hR h dX12_trick_61
def f_X12_trick (x1 : Int32) (x2 : Int32) (S : Hp) : Option (Int32 × Hp) :=
  ob2 (f_X12_isTrick x1 S) (fun r1 S1 => if r1 = 0 then some ((-1 : Int32), S1) else if x2 = (0 : Int32) then f_X12_trick_48 x1 x2 S1 else if x2 = (1 : Int32) then f_X12_trick_48 x1 x2 S1 else if x2 = (2 : Int32) then f_X12_trick_48 x1 x2 S1 else if x2 = (3 : Int32) then ob2 (f_X12_timesOf x1 S1) (fun r2 S2 => some (r2, S2)) else if x2 = (4 : Int32) then ob2 (f_X12_knownOf x1 S1) (fun r3 S3 => some (r3, S3)) else if x2 = (5 : Int32) then ob2 (f_X12_sightOf x1 S1) (fun r4 S4 => some (r4, S4)) else some ((-1 : Int32), S1))
set_option maxHeartbeats 4000000 in
set_option maxRecDepth 100000 in
theorem c_X12_trick (l : Launch) (E : Ev) (x1 : Int32) (x2 : Int32) (S : Hp) (r : (Int32 × Hp)) (h : f_X12_trick x1 x2 S = some r) : ho_M l yM E yX12_trick cX12_trick 3 (some .int) 5 [.ref (E.2.1 0), .int x1, .int x2] S (some (.int r.1), r.2) := by
  refine ho_in (by decide) (Nat.le_of_ble_eq_true rfl) ?_
  intro p e s m args below meth c C hR ls hl
  have C : ho_I p s m args meth c RX12 cX12_trick 3 (some .int) := C
  have hl : lv_has ls 3 [(0, .ref (E.2.1 0)), (1, .int x1), (2, .int x2)] := hl
  unfold f_X12_trick at h
  refine lv_aload_n C.1 C.2.1 dX12_trick_0 rfl (lv_at hl 0 rfl) ?_
  refine lv_iload_n C.1 C.2.1 dX12_trick_1 rfl (lv_at hl 1 rfl) ?_
  obtain ⟨r1, S1, h1, h⟩ := ob2_ok h
  refine hr_Vi (v := r1) (S' := S1) (As := [.int x1]) (rest := []) C cf12 (c_X12_isTrick l E x1 _ _ h1) yv_X12_isTrick lk_RX12_533 rfl aM_0 rfl rfl hl.1 (Nat.le_of_ble_eq_true rfl) (by decide) (by decide) hR (ho_A hR) dX12_trick_2 (fun H locs hR => ?_)
  refine lv_if_ne (tgt := 10) C.1 C.2.1 dX12_trick_5 (by decide) (fun hc => ?_) (fun hc => ?_)
  · replace h := if_f h hc
    refine lv_iload_n C.1 C.2.1 dX12_trick_10 rfl (lv_at hl 2 rfl) ?_
    by_cases hc0 : x2 = (0 : Int32)
    · replace h := if_t h hc0
      have hx : (x2).toInt = 0 := by rw [hc0]; decide
      refine lv_tableIn (off := 37) (tgt := 48) C.1 C.2.1 dX12_trick_11 (by rw [hx]; decide) (by rw [hx]; decide) (by rw [hx]; decide) (by decide) ?_
      exact w_X12_trick_48 C x1 x2 S1 h _ _ _ hR (lv_sub hl [0, 1, 2] rfl)
    · replace h := if_f h hc0
      by_cases hc1 : x2 = (1 : Int32)
      · replace h := if_t h hc1
        have hx : (x2).toInt = 1 := by rw [hc1]; decide
        refine lv_tableIn (off := 37) (tgt := 48) C.1 C.2.1 dX12_trick_11 (by rw [hx]; decide) (by rw [hx]; decide) (by rw [hx]; decide) (by decide) ?_
        exact w_X12_trick_48 C x1 x2 S1 h _ _ _ hR (lv_sub hl [0, 1, 2] rfl)
      · replace h := if_f h hc1
        by_cases hc2 : x2 = (2 : Int32)
        · replace h := if_t h hc2
          have hx : (x2).toInt = 2 := by rw [hc2]; decide
          refine lv_tableIn (off := 37) (tgt := 48) C.1 C.2.1 dX12_trick_11 (by rw [hx]; decide) (by rw [hx]; decide) (by rw [hx]; decide) (by decide) ?_
          exact w_X12_trick_48 C x1 x2 S1 h _ _ _ hR (lv_sub hl [0, 1, 2] rfl)
        · replace h := if_f h hc2
          by_cases hc3 : x2 = (3 : Int32)
          · replace h := if_t h hc3
            have hx : (x2).toInt = 3 := by rw [hc3]; decide
            refine lv_tableIn (off := 51) (tgt := 62) C.1 C.2.1 dX12_trick_11 (by rw [hx]; decide) (by rw [hx]; decide) (by rw [hx]; decide) (by decide) ?_
            refine lv_aload_n C.1 C.2.1 dX12_trick_62 rfl (lv_at hl 0 rfl) ?_
            refine lv_iload_n C.1 C.2.1 dX12_trick_63 rfl (lv_at hl 1 rfl) ?_
            obtain ⟨r2, S2, h2, h⟩ := ob2_ok h
            refine hr_Vi (v := r2) (S' := S2) (As := [.int x1]) (rest := []) C cf12 (c_X12_timesOf l E x1 _ _ h2) yv_X12_timesOf lk_RX12_536 rfl aM_0 rfl rfl hl.1 (Nat.le_of_ble_eq_true rfl) (by decide) (by decide) hR (ho_A hR) dX12_trick_64 (fun H locs hR => ?_)
            exact ho_iret C hR h dX12_trick_67
          · replace h := if_f h hc3
            by_cases hc4 : x2 = (4 : Int32)
            · replace h := if_t h hc4
              have hx : (x2).toInt = 4 := by rw [hc4]; decide
              refine lv_tableIn (off := 57) (tgt := 68) C.1 C.2.1 dX12_trick_11 (by rw [hx]; decide) (by rw [hx]; decide) (by rw [hx]; decide) (by decide) ?_
              refine lv_aload_n C.1 C.2.1 dX12_trick_68 rfl (lv_at hl 0 rfl) ?_
              refine lv_iload_n C.1 C.2.1 dX12_trick_69 rfl (lv_at hl 1 rfl) ?_
              obtain ⟨r3, S3, h3, h⟩ := ob2_ok h
              refine hr_Vi (v := r3) (S' := S3) (As := [.int x1]) (rest := []) C cf12 (c_X12_knownOf l E x1 _ _ h3) yv_X12_knownOf lk_RX12_449 rfl aM_0 rfl rfl hl.1 (Nat.le_of_ble_eq_true rfl) (by decide) (by decide) hR (ho_A hR) dX12_trick_70 (fun H locs hR => ?_)
              exact ho_iret C hR h dX12_trick_73
            · replace h := if_f h hc4
              by_cases hc5 : x2 = (5 : Int32)
              · replace h := if_t h hc5
                have hx : (x2).toInt = 5 := by rw [hc5]; decide
                refine lv_tableIn (off := 63) (tgt := 74) C.1 C.2.1 dX12_trick_11 (by rw [hx]; decide) (by rw [hx]; decide) (by rw [hx]; decide) (by decide) ?_
                refine lv_aload_n C.1 C.2.1 dX12_trick_74 rfl (lv_at hl 0 rfl) ?_
                refine lv_iload_n C.1 C.2.1 dX12_trick_75 rfl (lv_at hl 1 rfl) ?_
                obtain ⟨r4, S4, h4, h⟩ := ob2_ok h
                refine hr_Vi (v := r4) (S' := S4) (As := [.int x1]) (rest := []) C cf12 (c_X12_sightOf l E x1 _ _ h4) yv_X12_sightOf lk_RX12_461 rfl aM_0 rfl rfl hl.1 (Nat.le_of_ble_eq_true rfl) (by decide) (by decide) hR (ho_A hR) dX12_trick_76 (fun H locs hR => ?_)
                exact ho_iret C hR h dX12_trick_79
              · replace h := if_f h hc5
                have hx0 := lv_neT hc0 (a := 0) (by decide)
                have hx1 := lv_neT hc1 (a := 1) (by decide)
                have hx2 := lv_neT hc2 (a := 2) (by decide)
                have hx3 := lv_neT hc3 (a := 3) (by decide)
                have hx4 := lv_neT hc4 (a := 4) (by decide)
                have hx5 := lv_neT hc5 (a := 5) (by decide)
                refine lv_tableOut (tgt := 80) C.1 C.2.1 dX12_trick_11 (by omega) (by decide) ?_
                refine lv_iconst (v := (-1 : Int32)) C.1 C.2.1 dX12_trick_80 (by decide) ?_
                exact ho_iret C hR h dX12_trick_81
  · replace h := if_t h hc
    refine lv_iconst (v := (-1 : Int32)) C.1 C.2.1 dX12_trick_8 (by decide) ?_
    exact ho_iret C hR h dX12_trick_9
theorem dX12_watcher_0 : decode cX12_watcher 0 = .ok (.aload_n 0, 1) := by decide +kernel
theorem dX12_watcher_1 : decode cX12_watcher 1 = .ok (.iload_n 1, 1) := by decide +kernel
theorem dX12_watcher_2 : decode cX12_watcher 2 = .ok (.invokevirtual 539, 3) := by decide +kernel
theorem dX12_watcher_5 : decode cX12_watcher 5 = .ok (.ifCond .ne 5, 3) := by decide +kernel
theorem dX12_watcher_8 : decode cX12_watcher 8 = .ok (.iconst (-1), 1) := by decide +kernel
theorem dX12_watcher_9 : decode cX12_watcher 9 = .ok (.ireturn, 1) := by decide +kernel
theorem dX12_watcher_10 : decode cX12_watcher 10 = .ok (.iload_n 2, 1) := by decide +kernel
theorem dX12_watcher_11 : decode cX12_watcher 11 = .ok (.ifCond .ne 11, 3) := by decide +kernel
theorem dX12_watcher_14 : decode cX12_watcher 14 = .ok (.aload_n 0, 1) := by decide +kernel
theorem dX12_watcher_15 : decode cX12_watcher 15 = .ok (.iload_n 1, 1) := by decide +kernel
theorem dX12_watcher_16 : decode cX12_watcher 16 = .ok (.invokevirtual 441, 3) := by decide +kernel
theorem dX12_watcher_19 : decode cX12_watcher 19 = .ok (.goto 41, 3) := by decide +kernel
theorem dX12_watcher_22 : decode cX12_watcher 22 = .ok (.iload_n 2, 1) := by decide +kernel
theorem dX12_watcher_23 : decode cX12_watcher 23 = .ok (.iconst 1, 1) := by decide +kernel
theorem dX12_watcher_24 : decode cX12_watcher 24 = .ok (.if_icmp .ne 17, 3) := by decide +kernel
theorem dX12_watcher_27 : decode cX12_watcher 27 = .ok (.aload_n 0, 1) := by decide +kernel
theorem dX12_watcher_28 : decode cX12_watcher 28 = .ok (.getfield 124, 3) := by decide +kernel
theorem dX12_watcher_31 : decode cX12_watcher 31 = .ok (.bipush 11, 2) := by decide +kernel
theorem dX12_watcher_33 : decode cX12_watcher 33 = .ok (.iconst 2, 1) := by decide +kernel
theorem dX12_watcher_34 : decode cX12_watcher 34 = .ok (.iload_n 1, 1) := by decide +kernel
theorem dX12_watcher_35 : decode cX12_watcher 35 = .ok (.imul, 1) := by decide +kernel
theorem dX12_watcher_36 : decode cX12_watcher 36 = .ok (.iadd, 1) := by decide +kernel
theorem dX12_watcher_37 : decode cX12_watcher 37 = .ok (.iaload, 1) := by decide +kernel
theorem dX12_watcher_38 : decode cX12_watcher 38 = .ok (.goto 22, 3) := by decide +kernel
theorem dX12_watcher_41 : decode cX12_watcher 41 = .ok (.iload_n 2, 1) := by decide +kernel
theorem dX12_watcher_42 : decode cX12_watcher 42 = .ok (.iconst 2, 1) := by decide +kernel
theorem dX12_watcher_43 : decode cX12_watcher 43 = .ok (.if_icmp .ne 16, 3) := by decide +kernel
theorem dX12_watcher_46 : decode cX12_watcher 46 = .ok (.aload_n 0, 1) := by decide +kernel
theorem dX12_watcher_47 : decode cX12_watcher 47 = .ok (.iload_n 1, 1) := by decide +kernel
theorem dX12_watcher_48 : decode cX12_watcher 48 = .ok (.aload_n 0, 1) := by decide +kernel
theorem dX12_watcher_49 : decode cX12_watcher 49 = .ok (.iload_n 1, 1) := by decide +kernel
theorem dX12_watcher_50 : decode cX12_watcher 50 = .ok (.invokevirtual 441, 3) := by decide +kernel
theorem dX12_watcher_53 : decode cX12_watcher 53 = .ok (.invokevirtual 542, 3) := by decide +kernel
theorem dX12_watcher_56 : decode cX12_watcher 56 = .ok (.goto 4, 3) := by decide +kernel
theorem dX12_watcher_59 : decode cX12_watcher 59 = .ok (.iconst (-1), 1) := by decide +kernel
theorem dX12_watcher_60 : decode cX12_watcher 60 = .ok (.ireturn, 1) := by decide +kernel
def f_X12_watcher (x1 : Int32) (x2 : Int32) (S : Hp) : Option (Int32 × Hp) :=
  ob2 (f_X12_isWatcher x1 S) (fun r1 S1 => if r1 = 0 then some ((-1 : Int32), S1) else if x2 = 0 then ob2 (f_X12_seatOf x1 S1) (fun r5 S5 => some (r5, S5)) else if x2 = (1 : Int32) then ldI S1 46 20 ((11 : Int32) + ((2 : Int32) * x1)) (fun v4 => some (v4, S1)) else if x2 = (2 : Int32) then ob2 (f_X12_seatOf x1 S1) (fun r2 S2 => ob2 (f_X12_sightAll x1 r2 S2) (fun r3 S3 => some (r3, S3))) else some ((-1 : Int32), S1))
set_option maxHeartbeats 4000000 in
set_option maxRecDepth 100000 in
theorem c_X12_watcher (l : Launch) (E : Ev) (x1 : Int32) (x2 : Int32) (S : Hp) (r : (Int32 × Hp)) (h : f_X12_watcher x1 x2 S = some r) : ho_M l yM E yX12_watcher cX12_watcher 3 (some .int) 5 [.ref (E.2.1 0), .int x1, .int x2] S (some (.int r.1), r.2) := by
  refine ho_in (by decide) (Nat.le_of_ble_eq_true rfl) ?_
  intro p e s m args below meth c C hR ls hl
  have C : ho_I p s m args meth c RX12 cX12_watcher 3 (some .int) := C
  have hl : lv_has ls 3 [(0, .ref (E.2.1 0)), (1, .int x1), (2, .int x2)] := hl
  unfold f_X12_watcher at h
  refine lv_aload_n C.1 C.2.1 dX12_watcher_0 rfl (lv_at hl 0 rfl) ?_
  refine lv_iload_n C.1 C.2.1 dX12_watcher_1 rfl (lv_at hl 1 rfl) ?_
  obtain ⟨r1, S1, h1, h⟩ := ob2_ok h
  refine hr_Vi (v := r1) (S' := S1) (As := [.int x1]) (rest := []) C cf12 (c_X12_isWatcher l E x1 _ _ h1) yv_X12_isWatcher lk_RX12_539 rfl aM_0 rfl rfl hl.1 (Nat.le_of_ble_eq_true rfl) (by decide) (by decide) hR (ho_A hR) dX12_watcher_2 (fun H locs hR => ?_)
  refine lv_if_ne (tgt := 10) C.1 C.2.1 dX12_watcher_5 (by decide) (fun hc => ?_) (fun hc => ?_)
  · replace h := if_f h hc
    refine lv_iload_n C.1 C.2.1 dX12_watcher_10 rfl (lv_at hl 2 rfl) ?_
    refine lv_if_ne (tgt := 22) C.1 C.2.1 dX12_watcher_11 (by decide) (fun hc => ?_) (fun hc => ?_)
    · replace h := if_f h hc
      refine lv_iload_n C.1 C.2.1 dX12_watcher_22 rfl (lv_at hl 2 rfl) ?_
      refine lv_iconst (v := (1 : Int32)) C.1 C.2.1 dX12_watcher_23 (by decide) ?_
      refine lv_icmp_ne (tgt := 41) C.1 C.2.1 dX12_watcher_24 (by decide) (fun hc => ?_) (fun hc => ?_)
      · replace h := if_f h hc
        refine lv_iload_n C.1 C.2.1 dX12_watcher_41 rfl (lv_at hl 2 rfl) ?_
        refine lv_iconst (v := (2 : Int32)) C.1 C.2.1 dX12_watcher_42 (by decide) ?_
        refine lv_icmp_ne (tgt := 59) C.1 C.2.1 dX12_watcher_43 (by decide) (fun hc => ?_) (fun hc => ?_)
        · replace h := if_f h hc
          refine lv_iconst (v := (-1 : Int32)) C.1 C.2.1 dX12_watcher_59 (by decide) ?_
          exact ho_iret C hR h dX12_watcher_60
        · replace h := if_t h hc
          refine lv_aload_n C.1 C.2.1 dX12_watcher_46 rfl (lv_at hl 0 rfl) ?_
          refine lv_iload_n C.1 C.2.1 dX12_watcher_47 rfl (lv_at hl 1 rfl) ?_
          refine lv_aload_n C.1 C.2.1 dX12_watcher_48 rfl (lv_at hl 0 rfl) ?_
          refine lv_iload_n C.1 C.2.1 dX12_watcher_49 rfl (lv_at hl 1 rfl) ?_
          obtain ⟨r2, S2, h2, h⟩ := ob2_ok h
          refine hr_Vi (v := r2) (S' := S2) (As := [.int x1]) (rest := [.int x1, .ref (E.2.1 0)]) C cf12 (c_X12_seatOf l E x1 _ _ h2) yv_X12_seatOf lk_RX12_441 rfl aM_0 rfl rfl hl.1 (Nat.le_of_ble_eq_true rfl) (by decide) (by decide) hR (ho_A hR) dX12_watcher_50 (fun H locs hR => ?_)
          obtain ⟨r3, S3, h3, h⟩ := ob2_ok h
          refine hr_Vi (v := r3) (S' := S3) (As := [.int x1, .int r2]) (rest := []) C cf12 (c_X12_sightAll l E x1 r2 _ _ h3) yv_X12_sightAll lk_RX12_542 rfl aM_0 rfl rfl hl.1 (Nat.le_of_ble_eq_true rfl) (by decide) (by decide) hR (ho_A hR) dX12_watcher_53 (fun H locs hR => ?_)
          refine lv_goto (tgt := 60) C.1 C.2.1 dX12_watcher_56 (by decide) ?_
          exact ho_iret C hR h dX12_watcher_60
      · replace h := if_t h hc
        refine lv_aload_n C.1 C.2.1 dX12_watcher_27 rfl (lv_at hl 0 rfl) ?_
        refine ho_getR (a' := 46) C cf12 fM_124 hR aM_0 rfl dX12_watcher_28 ?_
        refine lv_bipush (v := (11 : Int32)) C.1 C.2.1 dX12_watcher_31 (by decide) ?_
        refine lv_iconst (v := (2 : Int32)) C.1 C.2.1 dX12_watcher_33 (by decide) ?_
        refine lv_iload_n C.1 C.2.1 dX12_watcher_34 rfl (lv_at hl 1 rfl) ?_
        refine lv_imul C.1 C.2.1 dX12_watcher_35 ?_
        refine lv_iadd C.1 C.2.1 dX12_watcher_36 ?_
        obtain ⟨v4, e4, hi4, h⟩ := ldI_ok h
        refine hr_ild C hR aM_46 hi4 e4 dX12_watcher_37 ?_
        refine lv_goto (tgt := 60) C.1 C.2.1 dX12_watcher_38 (by decide) ?_
        exact ho_iret C hR h dX12_watcher_60
    · replace h := if_t h hc
      refine lv_aload_n C.1 C.2.1 dX12_watcher_14 rfl (lv_at hl 0 rfl) ?_
      refine lv_iload_n C.1 C.2.1 dX12_watcher_15 rfl (lv_at hl 1 rfl) ?_
      obtain ⟨r5, S5, h5, h⟩ := ob2_ok h
      refine hr_Vi (v := r5) (S' := S5) (As := [.int x1]) (rest := []) C cf12 (c_X12_seatOf l E x1 _ _ h5) yv_X12_seatOf lk_RX12_441 rfl aM_0 rfl rfl hl.1 (Nat.le_of_ble_eq_true rfl) (by decide) (by decide) hR (ho_A hR) dX12_watcher_16 (fun H locs hR => ?_)
      refine lv_goto (tgt := 60) C.1 C.2.1 dX12_watcher_19 (by decide) ?_
      exact ho_iret C hR h dX12_watcher_60
  · replace h := if_t h hc
    refine lv_iconst (v := (-1 : Int32)) C.1 C.2.1 dX12_watcher_8 (by decide) ?_
    exact ho_iret C hR h dX12_watcher_9
theorem dX12_sight_0 : decode cX12_sight 0 = .ok (.aload_n 0, 1) := by decide +kernel
theorem dX12_sight_1 : decode cX12_sight 1 = .ok (.iload_n 1, 1) := by decide +kernel
theorem dX12_sight_2 : decode cX12_sight 2 = .ok (.invokevirtual 533, 3) := by decide +kernel
theorem dX12_sight_5 : decode cX12_sight 5 = .ok (.ifCond .eq 25, 3) := by decide +kernel
theorem dX12_sight_8 : decode cX12_sight 8 = .ok (.aload_n 0, 1) := by decide +kernel
theorem dX12_sight_9 : decode cX12_sight 9 = .ok (.iload_n 2, 1) := by decide +kernel
theorem dX12_sight_10 : decode cX12_sight 10 = .ok (.invokevirtual 539, 3) := by decide +kernel
theorem dX12_sight_13 : decode cX12_sight 13 = .ok (.ifCond .eq 17, 3) := by decide +kernel
theorem dX12_sight_16 : decode cX12_sight 16 = .ok (.aload_n 0, 1) := by decide +kernel
theorem dX12_sight_17 : decode cX12_sight 17 = .ok (.iload_n 1, 1) := by decide +kernel
theorem dX12_sight_18 : decode cX12_sight 18 = .ok (.iload_n 2, 1) := by decide +kernel
theorem dX12_sight_19 : decode cX12_sight 19 = .ok (.aload_n 0, 1) := by decide +kernel
theorem dX12_sight_20 : decode cX12_sight 20 = .ok (.iload_n 2, 1) := by decide +kernel
theorem dX12_sight_21 : decode cX12_sight 21 = .ok (.invokevirtual 441, 3) := by decide +kernel
theorem dX12_sight_24 : decode cX12_sight 24 = .ok (.invokevirtual 445, 3) := by decide +kernel
theorem dX12_sight_27 : decode cX12_sight 27 = .ok (.goto 4, 3) := by decide +kernel
theorem dX12_sight_30 : decode cX12_sight 30 = .ok (.iconst (-1), 1) := by decide +kernel
theorem dX12_sight_31 : decode cX12_sight 31 = .ok (.ireturn, 1) := by decide +kernel
def f_X12_sight (x1 : Int32) (x2 : Int32) (S : Hp) : Option (Int32 × Hp) :=
  ob2 (f_X12_isTrick x1 S) (fun r1 S1 => if r1 = 0 then some ((-1 : Int32), S1) else ob2 (f_X12_isWatcher x2 S1) (fun r2 S2 => if r2 = 0 then some ((-1 : Int32), S2) else ob2 (f_X12_seatOf x2 S2) (fun r3 S3 => ob2 (f_X12_sightBy x1 x2 r3 S3) (fun r4 S4 => some (r4, S4)))))
set_option maxHeartbeats 4000000 in
set_option maxRecDepth 100000 in
theorem c_X12_sight (l : Launch) (E : Ev) (x1 : Int32) (x2 : Int32) (S : Hp) (r : (Int32 × Hp)) (h : f_X12_sight x1 x2 S = some r) : ho_M l yM E yX12_sight cX12_sight 3 (some .int) 4 [.ref (E.2.1 0), .int x1, .int x2] S (some (.int r.1), r.2) := by
  refine ho_in (by decide) (Nat.le_of_ble_eq_true rfl) ?_
  intro p e s m args below meth c C hR ls hl
  have C : ho_I p s m args meth c RX12 cX12_sight 3 (some .int) := C
  have hl : lv_has ls 3 [(0, .ref (E.2.1 0)), (1, .int x1), (2, .int x2)] := hl
  unfold f_X12_sight at h
  refine lv_aload_n C.1 C.2.1 dX12_sight_0 rfl (lv_at hl 0 rfl) ?_
  refine lv_iload_n C.1 C.2.1 dX12_sight_1 rfl (lv_at hl 1 rfl) ?_
  obtain ⟨r1, S1, h1, h⟩ := ob2_ok h
  refine hr_Vi (v := r1) (S' := S1) (As := [.int x1]) (rest := []) C cf12 (c_X12_isTrick l E x1 _ _ h1) yv_X12_isTrick lk_RX12_533 rfl aM_0 rfl rfl hl.1 (Nat.le_of_ble_eq_true rfl) (by decide) (by decide) hR (ho_A hR) dX12_sight_2 (fun H locs hR => ?_)
  refine lv_if_eq (tgt := 30) C.1 C.2.1 dX12_sight_5 (by decide) (fun hc => ?_) (fun hc => ?_)
  · replace h := if_t h hc
    refine lv_iconst (v := (-1 : Int32)) C.1 C.2.1 dX12_sight_30 (by decide) ?_
    exact ho_iret C hR h dX12_sight_31
  · replace h := if_f h hc
    refine lv_aload_n C.1 C.2.1 dX12_sight_8 rfl (lv_at hl 0 rfl) ?_
    refine lv_iload_n C.1 C.2.1 dX12_sight_9 rfl (lv_at hl 2 rfl) ?_
    obtain ⟨r2, S2, h2, h⟩ := ob2_ok h
    refine hr_Vi (v := r2) (S' := S2) (As := [.int x2]) (rest := []) C cf12 (c_X12_isWatcher l E x2 _ _ h2) yv_X12_isWatcher lk_RX12_539 rfl aM_0 rfl rfl hl.1 (Nat.le_of_ble_eq_true rfl) (by decide) (by decide) hR (ho_A hR) dX12_sight_10 (fun H locs hR => ?_)
    refine lv_if_eq (tgt := 30) C.1 C.2.1 dX12_sight_13 (by decide) (fun hc => ?_) (fun hc => ?_)
    · replace h := if_t h hc
      refine lv_iconst (v := (-1 : Int32)) C.1 C.2.1 dX12_sight_30 (by decide) ?_
      exact ho_iret C hR h dX12_sight_31
    · replace h := if_f h hc
      refine lv_aload_n C.1 C.2.1 dX12_sight_16 rfl (lv_at hl 0 rfl) ?_
      refine lv_iload_n C.1 C.2.1 dX12_sight_17 rfl (lv_at hl 1 rfl) ?_
      refine lv_iload_n C.1 C.2.1 dX12_sight_18 rfl (lv_at hl 2 rfl) ?_
      refine lv_aload_n C.1 C.2.1 dX12_sight_19 rfl (lv_at hl 0 rfl) ?_
      refine lv_iload_n C.1 C.2.1 dX12_sight_20 rfl (lv_at hl 2 rfl) ?_
      obtain ⟨r3, S3, h3, h⟩ := ob2_ok h
      refine hr_Vi (v := r3) (S' := S3) (As := [.int x2]) (rest := [.int x2, .int x1, .ref (E.2.1 0)]) C cf12 (c_X12_seatOf l E x2 _ _ h3) yv_X12_seatOf lk_RX12_441 rfl aM_0 rfl rfl hl.1 (Nat.le_of_ble_eq_true rfl) (by decide) (by decide) hR (ho_A hR) dX12_sight_21 (fun H locs hR => ?_)
      obtain ⟨r4, S4, h4, h⟩ := ob2_ok h
      refine hr_Vi (v := r4) (S' := S4) (As := [.int x1, .int x2, .int r3]) (rest := []) C cf12 (c_X12_sightBy l E x1 x2 r3 _ _ h4) yv_X12_sightBy lk_RX12_445 rfl aM_0 rfl rfl hl.1 (Nat.le_of_ble_eq_true rfl) (by decide) (by decide) hR (ho_A hR) dX12_sight_24 (fun H locs hR => ?_)
      refine lv_goto (tgt := 31) C.1 C.2.1 dX12_sight_27 (by decide) ?_
      exact ho_iret C hR h dX12_sight_31
theorem dX12_kept_0 : decode cX12_kept 0 = .ok (.iload_n 1, 1) := by decide +kernel
theorem dX12_kept_1 : decode cX12_kept 1 = .ok (.i2l, 1) := by decide +kernel
theorem dX12_kept_2 : decode cX12_kept 2 = .ok (.lconst 0, 1) := by decide +kernel
theorem dX12_kept_3 : decode cX12_kept 3 = .ok (.aload_n 0, 1) := by decide +kernel
theorem dX12_kept_4 : decode cX12_kept 4 = .ok (.getfield 139, 3) := by decide +kernel
theorem dX12_kept_7 : decode cX12_kept 7 = .ok (.bipush 26, 2) := by decide +kernel
theorem dX12_kept_9 : decode cX12_kept 9 = .ok (.iaload, 1) := by decide +kernel
theorem dX12_kept_10 : decode cX12_kept 10 = .ok (.iconst 1, 1) := by decide +kernel
theorem dX12_kept_11 : decode cX12_kept 11 = .ok (.isub, 1) := by decide +kernel
theorem dX12_kept_12 : decode cX12_kept 12 = .ok (.i2l, 1) := by decide +kernel
theorem dX12_kept_13 : decode cX12_kept 13 = .ok (.invokestatic 304, 3) := by decide +kernel
theorem dX12_kept_16 : decode cX12_kept 16 = .ok (.ifCond .eq 31, 3) := by decide +kernel
theorem dX12_kept_19 : decode cX12_kept 19 = .ok (.iload_n 2, 1) := by decide +kernel
theorem dX12_kept_20 : decode cX12_kept 20 = .ok (.i2l, 1) := by decide +kernel
theorem dX12_kept_21 : decode cX12_kept 21 = .ok (.lconst 0, 1) := by decide +kernel
theorem dX12_kept_22 : decode cX12_kept 22 = .ok (.ldc2_w 526, 3) := by decide +kernel
theorem dX12_kept_25 : decode cX12_kept 25 = .ok (.invokestatic 304, 3) := by decide +kernel
theorem dX12_kept_28 : decode cX12_kept 28 = .ok (.ifCond .eq 19, 3) := by decide +kernel
theorem dX12_kept_31 : decode cX12_kept 31 = .ok (.aload_n 0, 1) := by decide +kernel
theorem dX12_kept_32 : decode cX12_kept 32 = .ok (.getfield 139, 3) := by decide +kernel
theorem dX12_kept_35 : decode cX12_kept 35 = .ok (.bipush 27, 2) := by decide +kernel
theorem dX12_kept_37 : decode cX12_kept 37 = .ok (.iconst 3, 1) := by decide +kernel
theorem dX12_kept_38 : decode cX12_kept 38 = .ok (.iload_n 1, 1) := by decide +kernel
theorem dX12_kept_39 : decode cX12_kept 39 = .ok (.imul, 1) := by decide +kernel
theorem dX12_kept_40 : decode cX12_kept 40 = .ok (.iadd, 1) := by decide +kernel
theorem dX12_kept_41 : decode cX12_kept 41 = .ok (.iload_n 2, 1) := by decide +kernel
theorem dX12_kept_42 : decode cX12_kept 42 = .ok (.iadd, 1) := by decide +kernel
theorem dX12_kept_43 : decode cX12_kept 43 = .ok (.iaload, 1) := by decide +kernel
theorem dX12_kept_44 : decode cX12_kept 44 = .ok (.goto 4, 3) := by decide +kernel
theorem dX12_kept_47 : decode cX12_kept 47 = .ok (.iconst (-1), 1) := by decide +kernel
theorem dX12_kept_48 : decode cX12_kept 48 = .ok (.ireturn, 1) := by decide +kernel
def f_X12_kept (x1 : Int32) (x2 : Int32) (S : Hp) : Option (Int32 × Hp) :=
  ldI S 55 117 (26 : Int32) (fun v1 => ob2 (f_X12_isIn (x1.toInt64) (0 : Int64) ((v1 - (1 : Int32)).toInt64) S) (fun r2 S2 => if r2 = 0 then some ((-1 : Int32), S2) else ob2 (f_X12_isIn (x2.toInt64) (0 : Int64) (2 : Int64) S2) (fun r3 S3 => if r3 = 0 then some ((-1 : Int32), S3) else ldI S3 55 117 (((27 : Int32) + ((3 : Int32) * x1)) + x2) (fun v4 => some (v4, S3)))))
set_option maxHeartbeats 4000000 in
set_option maxRecDepth 100000 in
theorem c_X12_kept (l : Launch) (E : Ev) (x1 : Int32) (x2 : Int32) (S : Hp) (r : (Int32 × Hp)) (h : f_X12_kept x1 x2 S = some r) : ho_M l yM E yX12_kept cX12_kept 3 (some .int) 1 [.ref (E.2.1 0), .int x1, .int x2] S (some (.int r.1), r.2) := by
  refine ho_in (by decide) (Nat.le_of_ble_eq_true rfl) ?_
  intro p e s m args below meth c C hR ls hl
  have C : ho_I p s m args meth c RX12 cX12_kept 3 (some .int) := C
  have hl : lv_has ls 3 [(0, .ref (E.2.1 0)), (1, .int x1), (2, .int x2)] := hl
  unfold f_X12_kept at h
  refine lv_iload_n C.1 C.2.1 dX12_kept_0 rfl (lv_at hl 1 rfl) ?_
  refine lv_i2l (v := (x1.toInt64)) C.1 C.2.1 dX12_kept_1 rfl ?_
  refine lv_lconst (v := (0 : Int64)) C.1 C.2.1 dX12_kept_2 (by decide) ?_
  refine lv_aload_n C.1 C.2.1 dX12_kept_3 rfl (lv_at hl 0 rfl) ?_
  refine ho_getR (a' := 55) C cf12 fM_139 hR aM_0 rfl dX12_kept_4 ?_
  refine lv_bipush (v := (26 : Int32)) C.1 C.2.1 dX12_kept_7 (by decide) ?_
  obtain ⟨v1, e1, hi1, h⟩ := ldI_ok h
  refine hr_ild C hR aM_55 hi1 e1 dX12_kept_9 ?_
  refine lv_iconst (v := (1 : Int32)) C.1 C.2.1 dX12_kept_10 (by decide) ?_
  refine lv_isub C.1 C.2.1 dX12_kept_11 ?_
  refine lv_i2l (v := ((v1 - (1 : Int32)).toInt64)) C.1 C.2.1 dX12_kept_12 rfl ?_
  obtain ⟨r2, S2, h2, h⟩ := ob2_ok h
  refine hr_Si (v := r2) (S' := S2) (As := [.long (x1.toInt64), .long (0 : Int64), .long ((v1 - (1 : Int32)).toInt64)]) (rest := []) C (c_X12_isIn l E (x1.toInt64) (0 : Int64) ((v1 - (1 : Int32)).toInt64) _ _ h2) ys_X12_isIn lk_RX12_304 rfl rfl hl.1 (Nat.le_of_ble_eq_true rfl) (by decide) (by decide) hR (ho_A hR) dX12_kept_13 (fun H locs hR => ?_)
  refine lv_if_eq (tgt := 47) C.1 C.2.1 dX12_kept_16 (by decide) (fun hc => ?_) (fun hc => ?_)
  · replace h := if_t h hc
    refine lv_iconst (v := (-1 : Int32)) C.1 C.2.1 dX12_kept_47 (by decide) ?_
    exact ho_iret C hR h dX12_kept_48
  · replace h := if_f h hc
    refine lv_iload_n C.1 C.2.1 dX12_kept_19 rfl (lv_at hl 2 rfl) ?_
    refine lv_i2l (v := (x2.toInt64)) C.1 C.2.1 dX12_kept_20 rfl ?_
    refine lv_lconst (v := (0 : Int64)) C.1 C.2.1 dX12_kept_21 (by decide) ?_
    refine lv_ldc2 (v := (2 : Int64)) C.1 C.2.1 C.2.2.2.2.1 (C.2.2.2.2.2.1 _ kc_RX12_526) dX12_kept_22 ?_
    obtain ⟨r3, S3, h3, h⟩ := ob2_ok h
    refine hr_Si (v := r3) (S' := S3) (As := [.long (x2.toInt64), .long (0 : Int64), .long (2 : Int64)]) (rest := []) C (c_X12_isIn l E (x2.toInt64) (0 : Int64) (2 : Int64) _ _ h3) ys_X12_isIn lk_RX12_304 rfl rfl hl.1 (Nat.le_of_ble_eq_true rfl) (by decide) (by decide) hR (ho_A hR) dX12_kept_25 (fun H locs hR => ?_)
    refine lv_if_eq (tgt := 47) C.1 C.2.1 dX12_kept_28 (by decide) (fun hc => ?_) (fun hc => ?_)
    · replace h := if_t h hc
      refine lv_iconst (v := (-1 : Int32)) C.1 C.2.1 dX12_kept_47 (by decide) ?_
      exact ho_iret C hR h dX12_kept_48
    · replace h := if_f h hc
      refine lv_aload_n C.1 C.2.1 dX12_kept_31 rfl (lv_at hl 0 rfl) ?_
      refine ho_getR (a' := 55) C cf12 fM_139 hR aM_0 rfl dX12_kept_32 ?_
      refine lv_bipush (v := (27 : Int32)) C.1 C.2.1 dX12_kept_35 (by decide) ?_
      refine lv_iconst (v := (3 : Int32)) C.1 C.2.1 dX12_kept_37 (by decide) ?_
      refine lv_iload_n C.1 C.2.1 dX12_kept_38 rfl (lv_at hl 1 rfl) ?_
      refine lv_imul C.1 C.2.1 dX12_kept_39 ?_
      refine lv_iadd C.1 C.2.1 dX12_kept_40 ?_
      refine lv_iload_n C.1 C.2.1 dX12_kept_41 rfl (lv_at hl 2 rfl) ?_
      refine lv_iadd C.1 C.2.1 dX12_kept_42 ?_
      obtain ⟨v4, e4, hi4, h⟩ := ldI_ok h
      refine hr_ild C hR aM_55 hi4 e4 dX12_kept_43 ?_
      refine lv_goto (tgt := 48) C.1 C.2.1 dX12_kept_44 (by decide) ?_
      exact ho_iret C hR h dX12_kept_48
theorem dX12_best_0 : decode cX12_best 0 = .ok (.aload_n 0, 1) := by decide +kernel
theorem dX12_best_1 : decode cX12_best 1 = .ok (.getfield 397, 3) := by decide +kernel
theorem dX12_best_4 : decode cX12_best 4 = .ok (.ifCond .eq 15, 3) := by decide +kernel
theorem dX12_best_7 : decode cX12_best 7 = .ok (.iload_n 1, 1) := by decide +kernel
theorem dX12_best_8 : decode cX12_best 8 = .ok (.i2l, 1) := by decide +kernel
theorem dX12_best_9 : decode cX12_best 9 = .ok (.lconst 0, 1) := by decide +kernel
theorem dX12_best_10 : decode cX12_best 10 = .ok (.ldc2_w 526, 3) := by decide +kernel
theorem dX12_best_13 : decode cX12_best 13 = .ok (.invokestatic 304, 3) := by decide +kernel
theorem dX12_best_16 : decode cX12_best 16 = .ok (.ifCond .ne 5, 3) := by decide +kernel
theorem dX12_best_19 : decode cX12_best 19 = .ok (.iconst (-1), 1) := by decide +kernel
theorem dX12_best_20 : decode cX12_best 20 = .ok (.ireturn, 1) := by decide +kernel
theorem dX12_best_21 : decode cX12_best 21 = .ok (.aload_n 0, 1) := by decide +kernel
theorem dX12_best_22 : decode cX12_best 22 = .ok (.invokevirtual 545, 3) := by decide +kernel
theorem dX12_best_25 : decode cX12_best 25 = .ok (.aload_n 0, 1) := by decide +kernel
theorem dX12_best_26 : decode cX12_best 26 = .ok (.invokevirtual 511, 3) := by decide +kernel
theorem dX12_best_29 : decode cX12_best 29 = .ok (.istore_n 2, 1) := by decide +kernel
theorem dX12_best_30 : decode cX12_best 30 = .ok (.iload_n 1, 1) := by decide +kernel
theorem dX12_best_31 : decode cX12_best 31 = .ok (.ifCond .ne 7, 3) := by decide +kernel
theorem dX12_best_34 : decode cX12_best 34 = .ok (.iload_n 2, 1) := by decide +kernel
theorem dX12_best_35 : decode cX12_best 35 = .ok (.goto 21, 3) := by decide +kernel
theorem dX12_best_38 : decode cX12_best 38 = .ok (.iload_n 1, 1) := by decide +kernel
theorem dX12_best_39 : decode cX12_best 39 = .ok (.iconst 1, 1) := by decide +kernel
theorem dX12_best_40 : decode cX12_best 40 = .ok (.if_icmp .ne 11, 3) := by decide +kernel
theorem dX12_best_43 : decode cX12_best 43 = .ok (.aload_n 0, 1) := by decide +kernel
theorem dX12_best_44 : decode cX12_best 44 = .ok (.iload_n 2, 1) := by decide +kernel
theorem dX12_best_45 : decode cX12_best 45 = .ok (.invokevirtual 464, 3) := by decide +kernel
theorem dX12_best_48 : decode cX12_best 48 = .ok (.goto 8, 3) := by decide +kernel
theorem dX12_best_51 : decode cX12_best 51 = .ok (.aload_n 0, 1) := by decide +kernel
theorem dX12_best_52 : decode cX12_best 52 = .ok (.iload_n 2, 1) := by decide +kernel
theorem dX12_best_53 : decode cX12_best 53 = .ok (.invokevirtual 467, 3) := by decide +kernel
theorem dX12_best_56 : decode cX12_best 56 = .ok (.istore_n 3, 1) := by decide +kernel
theorem dX12_best_57 : decode cX12_best 57 = .ok (.aload_n 0, 1) := by decide +kernel
theorem dX12_best_58 : decode cX12_best 58 = .ok (.invokevirtual 548, 3) := by decide +kernel
theorem dX12_best_61 : decode cX12_best 61 = .ok (.iload_n 3, 1) := by decide +kernel
theorem dX12_best_62 : decode cX12_best 62 = .ok (.ireturn, 1) := by decide +kernel
def f_X12_best_56 (z0 : Int32) (S : Hp) : Option (Int32 × Hp) :=
  ob (f_X12_yieldsGoBack S) (fun S1 => some (z0, S1))
set_option maxHeartbeats 4000000 in
set_option maxRecDepth 100000 in
theorem w_X12_best_56 {p : Program} {l : Launch} {e : Env} {s : State} {m : MethodId} {args : Array Value} {below : List Frame} {meth : Method} {c : Code} {E : Ev} {S0 : Hp} {r : (Int32 × Hp)} (C : ho_I p s m args meth c RX12 cX12_best 4 (some .int)) :
    ∀ (z0 : Int32) (S : Hp), f_X12_best_56 z0 S = some r → ho_G p l e s m args below meth c yM E S0 7 4 (some (.int r.1), r.2) 56 [(0, .ref (E.2.1 0))] [.int z0] S := by
  intro z0 S h H locs ls hR hl
  unfold f_X12_best_56 at h
  refine lv_istore_n (lv' := [(3, .int z0), (0, .ref (E.2.1 0))]) C.1 C.2.1 dX12_best_56 rfl hl (by decide) rfl (fun ls hl => ?_)
  refine lv_aload_n C.1 C.2.1 dX12_best_57 rfl (lv_at hl 1 rfl) ?_
  obtain ⟨S1, h1, h⟩ := ob_ok h
  refine hr_Vv (S' := S1) (As := []) (rest := []) C cf12 (c_X12_yieldsGoBack l E _ _ h1) yv_X12_yieldsGoBack lk_RX12_548 rfl aM_0 rfl rfl hl.1 (Nat.le_of_ble_eq_true rfl) (by decide) (by decide) hR (ho_A hR) dX12_best_58 (fun H locs hR => ?_)
  refine lv_iload_n C.1 C.2.1 dX12_best_61 rfl (lv_at hl 0 rfl) ?_
  exact ho_iret C hR h dX12_best_62
def f_X12_best (x1 : Int32) (S : Hp) : Option (Int32 × Hp) :=
  if (S.1 0 52) = 0 then some ((-1 : Int32), S) else ob2 (f_X12_isIn (x1.toInt64) (0 : Int64) (2 : Int64) S) (fun r1 S1 => if r1 = 0 then some ((-1 : Int32), S1) else ob (f_X12_yieldsComeNow S1) (fun S2 => ob2 (f_X12_bestShow S2) (fun r3 S3 => if x1 = 0 then f_X12_best_56 r3 S3 else if x1 = (1 : Int32) then ob2 (f_X12_appearsBy r3 S3) (fun r5 S5 => f_X12_best_56 r5 S5) else ob2 (f_X12_sightBySet r3 S3) (fun r4 S4 => f_X12_best_56 r4 S4))))
set_option maxHeartbeats 4000000 in
set_option maxRecDepth 100000 in
theorem c_X12_best (l : Launch) (E : Ev) (x1 : Int32) (S : Hp) (r : (Int32 × Hp)) (h : f_X12_best x1 S = some r) : ho_M l yM E yX12_best cX12_best 4 (some .int) 7 [.ref (E.2.1 0), .int x1] S (some (.int r.1), r.2) := by
  refine ho_in (by decide) (Nat.le_of_ble_eq_true rfl) ?_
  intro p e s m args below meth c C hR ls hl
  have C : ho_I p s m args meth c RX12 cX12_best 4 (some .int) := C
  have hl : lv_has ls 4 [(0, .ref (E.2.1 0)), (1, .int x1)] := hl
  unfold f_X12_best at h
  refine lv_aload_n C.1 C.2.1 dX12_best_0 rfl (lv_at hl 0 rfl) ?_
  refine ho_getI C cf12 fM_397 hR aM_0 dX12_best_1 ?_
  refine lv_if_eq (tgt := 19) C.1 C.2.1 dX12_best_4 (by decide) (fun hc => ?_) (fun hc => ?_)
  · replace h := if_t h hc
    refine lv_iconst (v := (-1 : Int32)) C.1 C.2.1 dX12_best_19 (by decide) ?_
    exact ho_iret C hR h dX12_best_20
  · replace h := if_f h hc
    refine lv_iload_n C.1 C.2.1 dX12_best_7 rfl (lv_at hl 1 rfl) ?_
    refine lv_i2l (v := (x1.toInt64)) C.1 C.2.1 dX12_best_8 rfl ?_
    refine lv_lconst (v := (0 : Int64)) C.1 C.2.1 dX12_best_9 (by decide) ?_
    refine lv_ldc2 (v := (2 : Int64)) C.1 C.2.1 C.2.2.2.2.1 (C.2.2.2.2.2.1 _ kc_RX12_526) dX12_best_10 ?_
    obtain ⟨r1, S1, h1, h⟩ := ob2_ok h
    refine hr_Si (v := r1) (S' := S1) (As := [.long (x1.toInt64), .long (0 : Int64), .long (2 : Int64)]) (rest := []) C (c_X12_isIn l E (x1.toInt64) (0 : Int64) (2 : Int64) _ _ h1) ys_X12_isIn lk_RX12_304 rfl rfl hl.1 (Nat.le_of_ble_eq_true rfl) (by decide) (by decide) hR (ho_A hR) dX12_best_13 (fun H locs hR => ?_)
    refine lv_if_ne (tgt := 21) C.1 C.2.1 dX12_best_16 (by decide) (fun hc => ?_) (fun hc => ?_)
    · replace h := if_f h hc
      refine lv_aload_n C.1 C.2.1 dX12_best_21 rfl (lv_at hl 0 rfl) ?_
      obtain ⟨S2, h2, h⟩ := ob_ok h
      refine hr_Vv (S' := S2) (As := []) (rest := []) C cf12 (c_X12_yieldsComeNow l E _ _ h2) yv_X12_yieldsComeNow lk_RX12_545 rfl aM_0 rfl rfl hl.1 (Nat.le_of_ble_eq_true rfl) (by decide) (by decide) hR (ho_A hR) dX12_best_22 (fun H locs hR => ?_)
      refine lv_aload_n C.1 C.2.1 dX12_best_25 rfl (lv_at hl 0 rfl) ?_
      obtain ⟨r3, S3, h3, h⟩ := ob2_ok h
      refine hr_Vi (v := r3) (S' := S3) (As := []) (rest := []) C cf12 (c_X12_bestShow l E _ _ h3) yv_X12_bestShow lk_RX12_511 rfl aM_0 rfl rfl hl.1 (Nat.le_of_ble_eq_true rfl) (by decide) (by decide) hR (ho_A hR) dX12_best_26 (fun H locs hR => ?_)
      refine lv_istore_n (lv' := [(2, .int r3), (0, .ref (E.2.1 0)), (1, .int x1)]) C.1 C.2.1 dX12_best_29 rfl hl (by decide) rfl (fun ls hl => ?_)
      refine lv_iload_n C.1 C.2.1 dX12_best_30 rfl (lv_at hl 2 rfl) ?_
      refine lv_if_ne (tgt := 38) C.1 C.2.1 dX12_best_31 (by decide) (fun hc => ?_) (fun hc => ?_)
      · replace h := if_f h hc
        refine lv_iload_n C.1 C.2.1 dX12_best_38 rfl (lv_at hl 2 rfl) ?_
        refine lv_iconst (v := (1 : Int32)) C.1 C.2.1 dX12_best_39 (by decide) ?_
        refine lv_icmp_ne (tgt := 51) C.1 C.2.1 dX12_best_40 (by decide) (fun hc => ?_) (fun hc => ?_)
        · replace h := if_f h hc
          refine lv_aload_n C.1 C.2.1 dX12_best_51 rfl (lv_at hl 1 rfl) ?_
          refine lv_iload_n C.1 C.2.1 dX12_best_52 rfl (lv_at hl 0 rfl) ?_
          obtain ⟨r4, S4, h4, h⟩ := ob2_ok h
          refine hr_Vi (v := r4) (S' := S4) (As := [.int r3]) (rest := []) C cf12 (c_X12_sightBySet l E r3 _ _ h4) yv_X12_sightBySet lk_RX12_467 rfl aM_0 rfl rfl hl.1 (Nat.le_of_ble_eq_true rfl) (by decide) (by decide) hR (ho_A hR) dX12_best_53 (fun H locs hR => ?_)
          exact w_X12_best_56 C r4 S4 h _ _ _ hR (lv_sub hl [1] rfl)
        · replace h := if_t h hc
          refine lv_aload_n C.1 C.2.1 dX12_best_43 rfl (lv_at hl 1 rfl) ?_
          refine lv_iload_n C.1 C.2.1 dX12_best_44 rfl (lv_at hl 0 rfl) ?_
          obtain ⟨r5, S5, h5, h⟩ := ob2_ok h
          refine hr_Vi (v := r5) (S' := S5) (As := [.int r3]) (rest := []) C cf12 (c_X12_appearsBy l E r3 _ _ h5) yv_X12_appearsBy lk_RX12_464 rfl aM_0 rfl rfl hl.1 (Nat.le_of_ble_eq_true rfl) (by decide) (by decide) hR (ho_A hR) dX12_best_45 (fun H locs hR => ?_)
          refine lv_goto (tgt := 56) C.1 C.2.1 dX12_best_48 (by decide) ?_
          exact w_X12_best_56 C r5 S5 h _ _ _ hR (lv_sub hl [1] rfl)
      · replace h := if_t h hc
        refine lv_iload_n C.1 C.2.1 dX12_best_34 rfl (lv_at hl 0 rfl) ?_
        refine lv_goto (tgt := 56) C.1 C.2.1 dX12_best_35 (by decide) ?_
        exact w_X12_best_56 C r3 S3 h _ _ _ hR (lv_sub hl [1] rfl)
    · replace h := if_t h hc
      refine lv_iconst (v := (-1 : Int32)) C.1 C.2.1 dX12_best_19 (by decide) ?_
      exact ho_iret C hR h dX12_best_20
theorem dX12_appears_0 : decode cX12_appears 0 = .ok (.aload_n 0, 1) := by decide +kernel
theorem dX12_appears_1 : decode cX12_appears 1 = .ok (.iload_n 1, 1) := by decide +kernel
theorem dX12_appears_2 : decode cX12_appears 2 = .ok (.invokevirtual 476, 3) := by decide +kernel
theorem dX12_appears_5 : decode cX12_appears 5 = .ok (.ifCond .ne 5, 3) := by decide +kernel
theorem dX12_appears_8 : decode cX12_appears 8 = .ok (.iconst (-1), 1) := by decide +kernel
theorem dX12_appears_9 : decode cX12_appears 9 = .ok (.ireturn, 1) := by decide +kernel
theorem dX12_appears_10 : decode cX12_appears 10 = .ok (.aload_n 0, 1) := by decide +kernel
theorem dX12_appears_11 : decode cX12_appears 11 = .ok (.invokevirtual 545, 3) := by decide +kernel
theorem dX12_appears_14 : decode cX12_appears 14 = .ok (.aload_n 0, 1) := by decide +kernel
theorem dX12_appears_15 : decode cX12_appears 15 = .ok (.iload_n 1, 1) := by decide +kernel
theorem dX12_appears_16 : decode cX12_appears 16 = .ok (.invokevirtual 464, 3) := by decide +kernel
theorem dX12_appears_19 : decode cX12_appears 19 = .ok (.istore_n 2, 1) := by decide +kernel
theorem dX12_appears_20 : decode cX12_appears 20 = .ok (.aload_n 0, 1) := by decide +kernel
theorem dX12_appears_21 : decode cX12_appears 21 = .ok (.invokevirtual 548, 3) := by decide +kernel
theorem dX12_appears_24 : decode cX12_appears 24 = .ok (.iload_n 2, 1) := by decide +kernel
theorem dX12_appears_25 : decode cX12_appears 25 = .ok (.ireturn, 1) := by decide +kernel
def f_X12_appears (x1 : Int32) (S : Hp) : Option (Int32 × Hp) :=
  ob2 (f_X12_canShow x1 S) (fun r1 S1 => if r1 = 0 then some ((-1 : Int32), S1) else ob (f_X12_yieldsComeNow S1) (fun S2 => ob2 (f_X12_appearsBy x1 S2) (fun r3 S3 => ob (f_X12_yieldsGoBack S3) (fun S4 => some (r3, S4)))))
set_option maxHeartbeats 4000000 in
set_option maxRecDepth 100000 in
theorem c_X12_appears (l : Launch) (E : Ev) (x1 : Int32) (S : Hp) (r : (Int32 × Hp)) (h : f_X12_appears x1 S = some r) : ho_M l yM E yX12_appears cX12_appears 3 (some .int) 3 [.ref (E.2.1 0), .int x1] S (some (.int r.1), r.2) := by
  refine ho_in (by decide) (Nat.le_of_ble_eq_true rfl) ?_
  intro p e s m args below meth c C hR ls hl
  have C : ho_I p s m args meth c RX12 cX12_appears 3 (some .int) := C
  have hl : lv_has ls 3 [(0, .ref (E.2.1 0)), (1, .int x1)] := hl
  unfold f_X12_appears at h
  refine lv_aload_n C.1 C.2.1 dX12_appears_0 rfl (lv_at hl 0 rfl) ?_
  refine lv_iload_n C.1 C.2.1 dX12_appears_1 rfl (lv_at hl 1 rfl) ?_
  obtain ⟨r1, S1, h1, h⟩ := ob2_ok h
  refine hr_Vi (v := r1) (S' := S1) (As := [.int x1]) (rest := []) C cf12 (c_X12_canShow l E x1 _ _ h1) yv_X12_canShow lk_RX12_476 rfl aM_0 rfl rfl hl.1 (Nat.le_of_ble_eq_true rfl) (by decide) (by decide) hR (ho_A hR) dX12_appears_2 (fun H locs hR => ?_)
  refine lv_if_ne (tgt := 10) C.1 C.2.1 dX12_appears_5 (by decide) (fun hc => ?_) (fun hc => ?_)
  · replace h := if_f h hc
    refine lv_aload_n C.1 C.2.1 dX12_appears_10 rfl (lv_at hl 0 rfl) ?_
    obtain ⟨S2, h2, h⟩ := ob_ok h
    refine hr_Vv (S' := S2) (As := []) (rest := []) C cf12 (c_X12_yieldsComeNow l E _ _ h2) yv_X12_yieldsComeNow lk_RX12_545 rfl aM_0 rfl rfl hl.1 (Nat.le_of_ble_eq_true rfl) (by decide) (by decide) hR (ho_A hR) dX12_appears_11 (fun H locs hR => ?_)
    refine lv_aload_n C.1 C.2.1 dX12_appears_14 rfl (lv_at hl 0 rfl) ?_
    refine lv_iload_n C.1 C.2.1 dX12_appears_15 rfl (lv_at hl 1 rfl) ?_
    obtain ⟨r3, S3, h3, h⟩ := ob2_ok h
    refine hr_Vi (v := r3) (S' := S3) (As := [.int x1]) (rest := []) C cf12 (c_X12_appearsBy l E x1 _ _ h3) yv_X12_appearsBy lk_RX12_464 rfl aM_0 rfl rfl hl.1 (Nat.le_of_ble_eq_true rfl) (by decide) (by decide) hR (ho_A hR) dX12_appears_16 (fun H locs hR => ?_)
    refine lv_istore_n (lv' := [(2, .int r3), (0, .ref (E.2.1 0)), (1, .int x1)]) C.1 C.2.1 dX12_appears_19 rfl hl (by decide) rfl (fun ls hl => ?_)
    refine lv_aload_n C.1 C.2.1 dX12_appears_20 rfl (lv_at hl 1 rfl) ?_
    obtain ⟨S4, h4, h⟩ := ob_ok h
    refine hr_Vv (S' := S4) (As := []) (rest := []) C cf12 (c_X12_yieldsGoBack l E _ _ h4) yv_X12_yieldsGoBack lk_RX12_548 rfl aM_0 rfl rfl hl.1 (Nat.le_of_ble_eq_true rfl) (by decide) (by decide) hR (ho_A hR) dX12_appears_21 (fun H locs hR => ?_)
    refine lv_iload_n C.1 C.2.1 dX12_appears_24 rfl (lv_at hl 0 rfl) ?_
    exact ho_iret C hR h dX12_appears_25
  · replace h := if_t h hc
    refine lv_iconst (v := (-1 : Int32)) C.1 C.2.1 dX12_appears_8 (by decide) ?_
    exact ho_iret C hR h dX12_appears_9
theorem dX12_later_0 : decode cX12_later 0 = .ok (.aload_n 0, 1) := by decide +kernel
theorem dX12_later_1 : decode cX12_later 1 = .ok (.iload_n 1, 1) := by decide +kernel
theorem dX12_later_2 : decode cX12_later 2 = .ok (.iconst 0, 1) := by decide +kernel
theorem dX12_later_3 : decode cX12_later 3 = .ok (.bipush 60, 2) := by decide +kernel
theorem dX12_later_5 : decode cX12_later 5 = .ok (.invokevirtual 551, 3) := by decide +kernel
theorem dX12_later_8 : decode cX12_later 8 = .ok (.ifCond .eq 15, 3) := by decide +kernel
theorem dX12_later_11 : decode cX12_later 11 = .ok (.iload_n 2, 1) := by decide +kernel
theorem dX12_later_12 : decode cX12_later 12 = .ok (.i2l, 1) := by decide +kernel
theorem dX12_later_13 : decode cX12_later 13 = .ok (.lconst 0, 1) := by decide +kernel
theorem dX12_later_14 : decode cX12_later 14 = .ok (.ldc2_w 554, 3) := by decide +kernel
theorem dX12_later_17 : decode cX12_later 17 = .ok (.invokestatic 304, 3) := by decide +kernel
theorem dX12_later_20 : decode cX12_later 20 = .ok (.ifCond .ne 5, 3) := by decide +kernel
theorem dX12_later_23 : decode cX12_later 23 = .ok (.iconst (-1), 1) := by decide +kernel
theorem dX12_later_24 : decode cX12_later 24 = .ok (.ireturn, 1) := by decide +kernel
theorem dX12_later_25 : decode cX12_later 25 = .ok (.aload_n 0, 1) := by decide +kernel
theorem dX12_later_26 : decode cX12_later 26 = .ok (.invokevirtual 556, 3) := by decide +kernel
theorem dX12_later_29 : decode cX12_later 29 = .ok (.aload_n 0, 1) := by decide +kernel
theorem dX12_later_30 : decode cX12_later 30 = .ok (.iload_n 1, 1) := by decide +kernel
theorem dX12_later_31 : decode cX12_later 31 = .ok (.invokevirtual 559, 3) := by decide +kernel
theorem dX12_later_34 : decode cX12_later 34 = .ok (.iload_n 2, 1) := by decide +kernel
theorem dX12_later_35 : decode cX12_later 35 = .ok (.iconst 2, 1) := by decide +kernel
theorem dX12_later_36 : decode cX12_later 36 = .ok (.if_icmp .ge 14, 3) := by decide +kernel
theorem dX12_later_39 : decode cX12_later 39 = .ok (.aload_n 0, 1) := by decide +kernel
theorem dX12_later_40 : decode cX12_later 40 = .ok (.getfield 139, 3) := by decide +kernel
theorem dX12_later_43 : decode cX12_later 43 = .ok (.iconst 1, 1) := by decide +kernel
theorem dX12_later_44 : decode cX12_later 44 = .ok (.iload_n 2, 1) := by decide +kernel
theorem dX12_later_45 : decode cX12_later 45 = .ok (.iadd, 1) := by decide +kernel
theorem dX12_later_46 : decode cX12_later 46 = .ok (.iaload, 1) := by decide +kernel
theorem dX12_later_47 : decode cX12_later 47 = .ok (.goto 19, 3) := by decide +kernel
theorem dX12_later_50 : decode cX12_later 50 = .ok (.iload_n 2, 1) := by decide +kernel
theorem dX12_later_51 : decode cX12_later 51 = .ok (.iconst 2, 1) := by decide +kernel
theorem dX12_later_52 : decode cX12_later 52 = .ok (.if_icmp .ne 10, 3) := by decide +kernel
theorem dX12_later_55 : decode cX12_later 55 = .ok (.aload_n 0, 1) := by decide +kernel
theorem dX12_later_56 : decode cX12_later 56 = .ok (.invokevirtual 455, 3) := by decide +kernel
theorem dX12_later_59 : decode cX12_later 59 = .ok (.goto 7, 3) := by decide +kernel
theorem dX12_later_62 : decode cX12_later 62 = .ok (.aload_n 0, 1) := by decide +kernel
theorem dX12_later_63 : decode cX12_later 63 = .ok (.invokevirtual 523, 3) := by decide +kernel
theorem dX12_later_66 : decode cX12_later 66 = .ok (.istore_n 3, 1) := by decide +kernel
theorem dX12_later_67 : decode cX12_later 67 = .ok (.aload_n 0, 1) := by decide +kernel
theorem dX12_later_68 : decode cX12_later 68 = .ok (.invokevirtual 562, 3) := by decide +kernel
theorem dX12_later_71 : decode cX12_later 71 = .ok (.iload_n 3, 1) := by decide +kernel
theorem dX12_later_72 : decode cX12_later 72 = .ok (.ireturn, 1) := by decide +kernel
def f_X12_later_66 (z0 : Int32) (S : Hp) : Option (Int32 × Hp) :=
  ob (f_X12_takesBack S) (fun S1 => some (z0, S1))
set_option maxHeartbeats 4000000 in
set_option maxRecDepth 100000 in
theorem w_X12_later_66 {p : Program} {l : Launch} {e : Env} {s : State} {m : MethodId} {args : Array Value} {below : List Frame} {meth : Method} {c : Code} {E : Ev} {S0 : Hp} {r : (Int32 × Hp)} (C : ho_I p s m args meth c RX12 cX12_later 4 (some .int)) :
    ∀ (z0 : Int32) (S : Hp), f_X12_later_66 z0 S = some r → ho_G p l e s m args below meth c yM E S0 10 4 (some (.int r.1), r.2) 66 [(0, .ref (E.2.1 0))] [.int z0] S := by
  intro z0 S h H locs ls hR hl
  unfold f_X12_later_66 at h
  refine lv_istore_n (lv' := [(3, .int z0), (0, .ref (E.2.1 0))]) C.1 C.2.1 dX12_later_66 rfl hl (by decide) rfl (fun ls hl => ?_)
  refine lv_aload_n C.1 C.2.1 dX12_later_67 rfl (lv_at hl 1 rfl) ?_
  obtain ⟨S1, h1, h⟩ := ob_ok h
  refine hr_Vv (S' := S1) (As := []) (rest := []) C cf12 (c_X12_takesBack l E _ _ h1) yv_X12_takesBack lk_RX12_562 rfl aM_0 rfl rfl hl.1 (Nat.le_of_ble_eq_true rfl) (by decide) (by decide) hR (ho_A hR) dX12_later_68 (fun H locs hR => ?_)
  refine lv_iload_n C.1 C.2.1 dX12_later_71 rfl (lv_at hl 0 rfl) ?_
  exact ho_iret C hR h dX12_later_72
def f_X12_later (x1 : Int32) (x2 : Int32) (S : Hp) : Option (Int32 × Hp) :=
  ob2 (f_X12_isAhead x1 (0 : Int32) (60 : Int32) S) (fun r1 S1 => if r1 = 0 then some ((-1 : Int32), S1) else ob2 (f_X12_isIn (x2.toInt64) (0 : Int64) (3 : Int64) S1) (fun r2 S2 => if r2 = 0 then some ((-1 : Int32), S2) else ob (f_X12_putsAside S2) (fun S3 => ob (f_X12_yearsGo x1 S3) (fun S4 => if (2 : Int32) ≤ x2 then if x2 = (2 : Int32) then ob2 (f_X12_throughSet S4) (fun r6 S6 => f_X12_later_66 r6 S6) else ob2 (f_X12_storesAll S4) (fun r5 S5 => f_X12_later_66 r5 S5) else ldI S4 55 117 ((1 : Int32) + x2) (fun v7 => f_X12_later_66 v7 S4)))))
set_option maxHeartbeats 4000000 in
set_option maxRecDepth 100000 in
theorem c_X12_later (l : Launch) (E : Ev) (x1 : Int32) (x2 : Int32) (S : Hp) (r : (Int32 × Hp)) (h : f_X12_later x1 x2 S = some r) : ho_M l yM E yX12_later cX12_later 4 (some .int) 10 [.ref (E.2.1 0), .int x1, .int x2] S (some (.int r.1), r.2) := by
  refine ho_in (by decide) (Nat.le_of_ble_eq_true rfl) ?_
  intro p e s m args below meth c C hR ls hl
  have C : ho_I p s m args meth c RX12 cX12_later 4 (some .int) := C
  have hl : lv_has ls 4 [(0, .ref (E.2.1 0)), (1, .int x1), (2, .int x2)] := hl
  unfold f_X12_later at h
  refine lv_aload_n C.1 C.2.1 dX12_later_0 rfl (lv_at hl 0 rfl) ?_
  refine lv_iload_n C.1 C.2.1 dX12_later_1 rfl (lv_at hl 1 rfl) ?_
  refine lv_iconst (v := (0 : Int32)) C.1 C.2.1 dX12_later_2 (by decide) ?_
  refine lv_bipush (v := (60 : Int32)) C.1 C.2.1 dX12_later_3 (by decide) ?_
  obtain ⟨r1, S1, h1, h⟩ := ob2_ok h
  refine hr_Vi (v := r1) (S' := S1) (As := [.int x1, .int (0 : Int32), .int (60 : Int32)]) (rest := []) C cf12 (c_X12_isAhead l E x1 (0 : Int32) (60 : Int32) _ _ h1) yv_X12_isAhead lk_RX12_551 rfl aM_0 rfl rfl hl.1 (Nat.le_of_ble_eq_true rfl) (by decide) (by decide) hR (ho_A hR) dX12_later_5 (fun H locs hR => ?_)
  refine lv_if_eq (tgt := 23) C.1 C.2.1 dX12_later_8 (by decide) (fun hc => ?_) (fun hc => ?_)
  · replace h := if_t h hc
    refine lv_iconst (v := (-1 : Int32)) C.1 C.2.1 dX12_later_23 (by decide) ?_
    exact ho_iret C hR h dX12_later_24
  · replace h := if_f h hc
    refine lv_iload_n C.1 C.2.1 dX12_later_11 rfl (lv_at hl 2 rfl) ?_
    refine lv_i2l (v := (x2.toInt64)) C.1 C.2.1 dX12_later_12 rfl ?_
    refine lv_lconst (v := (0 : Int64)) C.1 C.2.1 dX12_later_13 (by decide) ?_
    refine lv_ldc2 (v := (3 : Int64)) C.1 C.2.1 C.2.2.2.2.1 (C.2.2.2.2.2.1 _ kc_RX12_554) dX12_later_14 ?_
    obtain ⟨r2, S2, h2, h⟩ := ob2_ok h
    refine hr_Si (v := r2) (S' := S2) (As := [.long (x2.toInt64), .long (0 : Int64), .long (3 : Int64)]) (rest := []) C (c_X12_isIn l E (x2.toInt64) (0 : Int64) (3 : Int64) _ _ h2) ys_X12_isIn lk_RX12_304 rfl rfl hl.1 (Nat.le_of_ble_eq_true rfl) (by decide) (by decide) hR (ho_A hR) dX12_later_17 (fun H locs hR => ?_)
    refine lv_if_ne (tgt := 25) C.1 C.2.1 dX12_later_20 (by decide) (fun hc => ?_) (fun hc => ?_)
    · replace h := if_f h hc
      refine lv_aload_n C.1 C.2.1 dX12_later_25 rfl (lv_at hl 0 rfl) ?_
      obtain ⟨S3, h3, h⟩ := ob_ok h
      refine hr_Vv (S' := S3) (As := []) (rest := []) C cf12 (c_X12_putsAside l E _ _ h3) yv_X12_putsAside lk_RX12_556 rfl aM_0 rfl rfl hl.1 (Nat.le_of_ble_eq_true rfl) (by decide) (by decide) hR (ho_A hR) dX12_later_26 (fun H locs hR => ?_)
      refine lv_aload_n C.1 C.2.1 dX12_later_29 rfl (lv_at hl 0 rfl) ?_
      refine lv_iload_n C.1 C.2.1 dX12_later_30 rfl (lv_at hl 1 rfl) ?_
      obtain ⟨S4, h4, h⟩ := ob_ok h
      refine hr_Vv (S' := S4) (As := [.int x1]) (rest := []) C cf12 (c_X12_yearsGo l E x1 _ _ h4) yv_X12_yearsGo lk_RX12_559 rfl aM_0 rfl rfl hl.1 (Nat.le_of_ble_eq_true rfl) (by decide) (by decide) hR (ho_A hR) dX12_later_31 (fun H locs hR => ?_)
      refine lv_iload_n C.1 C.2.1 dX12_later_34 rfl (lv_at hl 2 rfl) ?_
      refine lv_iconst (v := (2 : Int32)) C.1 C.2.1 dX12_later_35 (by decide) ?_
      refine lv_icmp_ge (tgt := 50) C.1 C.2.1 dX12_later_36 (by decide) (fun hc => ?_) (fun hc => ?_)
      · replace h := if_t h hc
        refine lv_iload_n C.1 C.2.1 dX12_later_50 rfl (lv_at hl 2 rfl) ?_
        refine lv_iconst (v := (2 : Int32)) C.1 C.2.1 dX12_later_51 (by decide) ?_
        refine lv_icmp_ne (tgt := 62) C.1 C.2.1 dX12_later_52 (by decide) (fun hc => ?_) (fun hc => ?_)
        · replace h := if_f h hc
          refine lv_aload_n C.1 C.2.1 dX12_later_62 rfl (lv_at hl 0 rfl) ?_
          obtain ⟨r5, S5, h5, h⟩ := ob2_ok h
          refine hr_Vi (v := r5) (S' := S5) (As := []) (rest := []) C cf12 (c_X12_storesAll l E _ _ h5) yv_X12_storesAll lk_RX12_523 rfl aM_0 rfl rfl hl.1 (Nat.le_of_ble_eq_true rfl) (by decide) (by decide) hR (ho_A hR) dX12_later_63 (fun H locs hR => ?_)
          exact w_X12_later_66 C r5 S5 h _ _ _ hR (lv_sub hl [0] rfl)
        · replace h := if_t h hc
          refine lv_aload_n C.1 C.2.1 dX12_later_55 rfl (lv_at hl 0 rfl) ?_
          obtain ⟨r6, S6, h6, h⟩ := ob2_ok h
          refine hr_Vi (v := r6) (S' := S6) (As := []) (rest := []) C cf12 (c_X12_throughSet l E _ _ h6) yv_X12_throughSet lk_RX12_455 rfl aM_0 rfl rfl hl.1 (Nat.le_of_ble_eq_true rfl) (by decide) (by decide) hR (ho_A hR) dX12_later_56 (fun H locs hR => ?_)
          refine lv_goto (tgt := 66) C.1 C.2.1 dX12_later_59 (by decide) ?_
          exact w_X12_later_66 C r6 S6 h _ _ _ hR (lv_sub hl [0] rfl)
      · replace h := if_f h hc
        refine lv_aload_n C.1 C.2.1 dX12_later_39 rfl (lv_at hl 0 rfl) ?_
        refine ho_getR (a' := 55) C cf12 fM_139 hR aM_0 rfl dX12_later_40 ?_
        refine lv_iconst (v := (1 : Int32)) C.1 C.2.1 dX12_later_43 (by decide) ?_
        refine lv_iload_n C.1 C.2.1 dX12_later_44 rfl (lv_at hl 2 rfl) ?_
        refine lv_iadd C.1 C.2.1 dX12_later_45 ?_
        obtain ⟨v7, e7, hi7, h⟩ := ldI_ok h
        refine hr_ild C hR aM_55 hi7 e7 dX12_later_46 ?_
        refine lv_goto (tgt := 66) C.1 C.2.1 dX12_later_47 (by decide) ?_
        exact w_X12_later_66 C v7 S4 h _ _ _ hR (lv_sub hl [0] rfl)
    · replace h := if_t h hc
      refine lv_iconst (v := (-1 : Int32)) C.1 C.2.1 dX12_later_23 (by decide) ?_
      exact ho_iret C hR h dX12_later_24
theorem dX12_curtain_0 : decode cX12_curtain 0 = .ok (.aload_n 0, 1) := by decide +kernel
theorem dX12_curtain_1 : decode cX12_curtain 1 = .ok (.getfield 397, 3) := by decide +kernel
theorem dX12_curtain_4 : decode cX12_curtain 4 = .ok (.ifCond .ne 5, 3) := by decide +kernel
theorem dX12_curtain_7 : decode cX12_curtain 7 = .ok (.iconst (-1), 1) := by decide +kernel
theorem dX12_curtain_8 : decode cX12_curtain 8 = .ok (.ireturn, 1) := by decide +kernel
theorem dX12_curtain_9 : decode cX12_curtain 9 = .ok (.iconst 0, 1) := by decide +kernel
theorem dX12_curtain_10 : decode cX12_curtain 10 = .ok (.istore_n 1, 1) := by decide +kernel
theorem dX12_curtain_11 : decode cX12_curtain 11 = .ok (.aload_n 0, 1) := by decide +kernel
theorem dX12_curtain_12 : decode cX12_curtain 12 = .ok (.invokevirtual 556, 3) := by decide +kernel
theorem dX12_curtain_15 : decode cX12_curtain 15 = .ok (.aload_n 0, 1) := by decide +kernel
theorem dX12_curtain_16 : decode cX12_curtain 16 = .ok (.getfield 139, 3) := by decide +kernel
theorem dX12_curtain_19 : decode cX12_curtain 19 = .ok (.iconst 2, 1) := by decide +kernel
theorem dX12_curtain_20 : decode cX12_curtain 20 = .ok (.iaload, 1) := by decide +kernel
theorem dX12_curtain_21 : decode cX12_curtain 21 = .ok (.ifCond .le 31, 3) := by decide +kernel
theorem dX12_curtain_24 : decode cX12_curtain 24 = .ok (.iload_n 1, 1) := by decide +kernel
theorem dX12_curtain_25 : decode cX12_curtain 25 = .ok (.bipush 60, 2) := by decide +kernel
theorem dX12_curtain_27 : decode cX12_curtain 27 = .ok (.if_icmp .ge 25, 3) := by decide +kernel
theorem dX12_curtain_30 : decode cX12_curtain 30 = .ok (.aload_n 0, 1) := by decide +kernel
theorem dX12_curtain_31 : decode cX12_curtain 31 = .ok (.getfield 139, 3) := by decide +kernel
theorem dX12_curtain_34 : decode cX12_curtain 34 = .ok (.iconst 0, 1) := by decide +kernel
theorem dX12_curtain_35 : decode cX12_curtain 35 = .ok (.iaload, 1) := by decide +kernel
theorem dX12_curtain_36 : decode cX12_curtain 36 = .ok (.sipush 999, 3) := by decide +kernel
theorem dX12_curtain_39 : decode cX12_curtain 39 = .ok (.if_icmp .ge 13, 3) := by decide +kernel
theorem dX12_curtain_42 : decode cX12_curtain 42 = .ok (.aload_n 0, 1) := by decide +kernel
theorem dX12_curtain_43 : decode cX12_curtain 43 = .ok (.invokevirtual 517, 3) := by decide +kernel
theorem dX12_curtain_46 : decode cX12_curtain 46 = .ok (.iinc 1 1, 3) := by decide +kernel
theorem dX12_curtain_49 : decode cX12_curtain 49 = .ok (.goto (-34), 3) := by decide +kernel
theorem dX12_curtain_52 : decode cX12_curtain 52 = .ok (.aload_n 0, 1) := by decide +kernel
theorem dX12_curtain_53 : decode cX12_curtain 53 = .ok (.getfield 139, 3) := by decide +kernel
theorem dX12_curtain_56 : decode cX12_curtain 56 = .ok (.iconst 2, 1) := by decide +kernel
theorem dX12_curtain_57 : decode cX12_curtain 57 = .ok (.iaload, 1) := by decide +kernel
theorem dX12_curtain_58 : decode cX12_curtain 58 = .ok (.ifCond .ne 7, 3) := by decide +kernel
theorem dX12_curtain_61 : decode cX12_curtain 61 = .ok (.iconst 1, 1) := by decide +kernel
theorem dX12_curtain_62 : decode cX12_curtain 62 = .ok (.goto 4, 3) := by decide +kernel
theorem dX12_curtain_65 : decode cX12_curtain 65 = .ok (.iconst 0, 1) := by decide +kernel
theorem dX12_curtain_66 : decode cX12_curtain 66 = .ok (.istore_n 2, 1) := by decide +kernel
theorem dX12_curtain_67 : decode cX12_curtain 67 = .ok (.aload_n 0, 1) := by decide +kernel
theorem dX12_curtain_68 : decode cX12_curtain 68 = .ok (.invokevirtual 562, 3) := by decide +kernel
theorem dX12_curtain_71 : decode cX12_curtain 71 = .ok (.iload_n 2, 1) := by decide +kernel
theorem dX12_curtain_72 : decode cX12_curtain 72 = .ok (.ifCond .eq 7, 3) := by decide +kernel
theorem dX12_curtain_75 : decode cX12_curtain 75 = .ok (.iload_n 1, 1) := by decide +kernel
theorem dX12_curtain_76 : decode cX12_curtain 76 = .ok (.goto 4, 3) := by decide +kernel
theorem dX12_curtain_79 : decode cX12_curtain 79 = .ok (.iconst (-1), 1) := by decide +kernel
theorem dX12_curtain_80 : decode cX12_curtain 80 = .ok (.ireturn, 1) := by decide +kernel
def f_X12_curtain_66 (x1 : Int32) (z0 : Int32) (S : Hp) : Option (Int32 × Hp) :=
  ob (f_X12_takesBack S) (fun S1 => if z0 = 0 then some ((-1 : Int32), S1) else some (x1, S1))
set_option maxHeartbeats 4000000 in
set_option maxRecDepth 100000 in
theorem w_X12_curtain_66 {p : Program} {l : Launch} {e : Env} {s : State} {m : MethodId} {args : Array Value} {below : List Frame} {meth : Method} {c : Code} {E : Ev} {S0 : Hp} {r : (Int32 × Hp)} (C : ho_I p s m args meth c RX12 cX12_curtain 3 (some .int)) :
    ∀ (x1 : Int32) (z0 : Int32) (S : Hp), f_X12_curtain_66 x1 z0 S = some r → ho_G p l e s m args below meth c yM E S0 9 3 (some (.int r.1), r.2) 66 [(0, .ref (E.2.1 0)), (1, .int x1)] [.int z0] S := by
  intro x1 z0 S h H locs ls hR hl
  unfold f_X12_curtain_66 at h
  refine lv_istore_n (lv' := [(2, .int z0), (0, .ref (E.2.1 0)), (1, .int x1)]) C.1 C.2.1 dX12_curtain_66 rfl hl (by decide) rfl (fun ls hl => ?_)
  refine lv_aload_n C.1 C.2.1 dX12_curtain_67 rfl (lv_at hl 1 rfl) ?_
  obtain ⟨S1, h1, h⟩ := ob_ok h
  refine hr_Vv (S' := S1) (As := []) (rest := []) C cf12 (c_X12_takesBack l E _ _ h1) yv_X12_takesBack lk_RX12_562 rfl aM_0 rfl rfl hl.1 (Nat.le_of_ble_eq_true rfl) (by decide) (by decide) hR (ho_A hR) dX12_curtain_68 (fun H locs hR => ?_)
  refine lv_iload_n C.1 C.2.1 dX12_curtain_71 rfl (lv_at hl 0 rfl) ?_
  refine lv_if_eq (tgt := 79) C.1 C.2.1 dX12_curtain_72 (by decide) (fun hc => ?_) (fun hc => ?_)
  · replace h := if_t h hc
    refine lv_iconst (v := (-1 : Int32)) C.1 C.2.1 dX12_curtain_79 (by decide) ?_
    exact ho_iret C hR h dX12_curtain_80
  · replace h := if_f h hc
    refine lv_iload_n C.1 C.2.1 dX12_curtain_75 rfl (lv_at hl 2 rfl) ?_
    refine lv_goto (tgt := 80) C.1 C.2.1 dX12_curtain_76 (by decide) ?_
    exact ho_iret C hR h dX12_curtain_80
def f_X12_curtain_52 (x1 : Int32) (S : Hp) : Option (Int32 × Hp) :=
  ldI S 55 117 (2 : Int32) (fun v1 => if v1 = 0 then f_X12_curtain_66 x1 (1 : Int32) S else f_X12_curtain_66 x1 (0 : Int32) S)
set_option maxHeartbeats 4000000 in
set_option maxRecDepth 100000 in
theorem w_X12_curtain_52 {p : Program} {l : Launch} {e : Env} {s : State} {m : MethodId} {args : Array Value} {below : List Frame} {meth : Method} {c : Code} {E : Ev} {S0 : Hp} {r : (Int32 × Hp)} (C : ho_I p s m args meth c RX12 cX12_curtain 3 (some .int)) :
    ∀ (x1 : Int32) (S : Hp), f_X12_curtain_52 x1 S = some r → ho_G p l e s m args below meth c yM E S0 9 3 (some (.int r.1), r.2) 52 [(0, .ref (E.2.1 0)), (1, .int x1)] [] S := by
  intro x1 S h H locs ls hR hl
  unfold f_X12_curtain_52 at h
  refine lv_aload_n C.1 C.2.1 dX12_curtain_52 rfl (lv_at hl 0 rfl) ?_
  refine ho_getR (a' := 55) C cf12 fM_139 hR aM_0 rfl dX12_curtain_53 ?_
  refine lv_iconst (v := (2 : Int32)) C.1 C.2.1 dX12_curtain_56 (by decide) ?_
  obtain ⟨v1, e1, hi1, h⟩ := ldI_ok h
  refine hr_ild C hR aM_55 hi1 e1 dX12_curtain_57 ?_
  refine lv_if_ne (tgt := 65) C.1 C.2.1 dX12_curtain_58 (by decide) (fun hc => ?_) (fun hc => ?_)
  · replace h := if_f h hc
    refine lv_iconst (v := (0 : Int32)) C.1 C.2.1 dX12_curtain_65 (by decide) ?_
    exact w_X12_curtain_66 C x1 (0 : Int32) S h _ _ _ hR (lv_sub hl [0, 1] rfl)
  · replace h := if_t h hc
    refine lv_iconst (v := (1 : Int32)) C.1 C.2.1 dX12_curtain_61 (by decide) ?_
    refine lv_goto (tgt := 66) C.1 C.2.1 dX12_curtain_62 (by decide) ?_
    exact w_X12_curtain_66 C x1 (1 : Int32) S h _ _ _ hR (lv_sub hl [0, 1] rfl)
def f_X12_curtain_15 : Nat → Int32 → Hp → Option (Int32 × Hp)
  | 0, _, _ => none
  | k + 1, x1, S => ldI S 55 117 (2 : Int32) (fun v1 => if v1 ≤ 0 then f_X12_curtain_52 x1 S else if (60 : Int32) ≤ x1 then f_X12_curtain_52 x1 S else ldI S 55 117 (0 : Int32) (fun v2 => if (999 : Int32) ≤ v2 then f_X12_curtain_52 x1 S else ob (f_X12_yearGoes S) (fun S3 => le1 (x1 + (1 : Int32)) (fun v4 => f_X12_curtain_15 k v4 S3))))
set_option maxHeartbeats 4000000 in
set_option maxRecDepth 100000 in
theorem w_X12_curtain_15 {p : Program} {l : Launch} {e : Env} {s : State} {m : MethodId} {args : Array Value} {below : List Frame} {meth : Method} {c : Code} {E : Ev} {S0 : Hp} {r : (Int32 × Hp)} (C : ho_I p s m args meth c RX12 cX12_curtain 3 (some .int)) :
    ∀ (k : Nat) (x1 : Int32) (S : Hp), f_X12_curtain_15 k x1 S = some r → ho_G p l e s m args below meth c yM E S0 9 3 (some (.int r.1), r.2) 15 [(0, .ref (E.2.1 0)), (1, .int x1)] [] S := by
  intro k
  induction k with
  | zero =>
    intro x1 S h
    exact absurd (show (none : Option (Int32 × Hp)) = some r from h) (by simp)
  | succ k ih =>
    intro x1 S h H locs ls hR hl
    rw [f_X12_curtain_15] at h
    refine lv_aload_n C.1 C.2.1 dX12_curtain_15 rfl (lv_at hl 0 rfl) ?_
    refine ho_getR (a' := 55) C cf12 fM_139 hR aM_0 rfl dX12_curtain_16 ?_
    refine lv_iconst (v := (2 : Int32)) C.1 C.2.1 dX12_curtain_19 (by decide) ?_
    obtain ⟨v1, e1, hi1, h⟩ := ldI_ok h
    refine hr_ild C hR aM_55 hi1 e1 dX12_curtain_20 ?_
    refine lv_if_le (tgt := 52) C.1 C.2.1 dX12_curtain_21 (by decide) (fun hc => ?_) (fun hc => ?_)
    · replace h := if_t h hc
      exact w_X12_curtain_52 C x1 S h _ _ _ hR (lv_sub hl [0, 1] rfl)
    · replace h := if_f h hc
      refine lv_iload_n C.1 C.2.1 dX12_curtain_24 rfl (lv_at hl 1 rfl) ?_
      refine lv_bipush (v := (60 : Int32)) C.1 C.2.1 dX12_curtain_25 (by decide) ?_
      refine lv_icmp_ge (tgt := 52) C.1 C.2.1 dX12_curtain_27 (by decide) (fun hc => ?_) (fun hc => ?_)
      · replace h := if_t h hc
        exact w_X12_curtain_52 C x1 S h _ _ _ hR (lv_sub hl [0, 1] rfl)
      · replace h := if_f h hc
        refine lv_aload_n C.1 C.2.1 dX12_curtain_30 rfl (lv_at hl 0 rfl) ?_
        refine ho_getR (a' := 55) C cf12 fM_139 hR aM_0 rfl dX12_curtain_31 ?_
        refine lv_iconst (v := (0 : Int32)) C.1 C.2.1 dX12_curtain_34 (by decide) ?_
        obtain ⟨v2, e2, hi2, h⟩ := ldI_ok h
        refine hr_ild C hR aM_55 hi2 e2 dX12_curtain_35 ?_
        refine lv_sipush (v := (999 : Int32)) C.1 C.2.1 dX12_curtain_36 (by decide) ?_
        refine lv_icmp_ge (tgt := 52) C.1 C.2.1 dX12_curtain_39 (by decide) (fun hc => ?_) (fun hc => ?_)
        · replace h := if_t h hc
          exact w_X12_curtain_52 C x1 S h _ _ _ hR (lv_sub hl [0, 1] rfl)
        · replace h := if_f h hc
          refine lv_aload_n C.1 C.2.1 dX12_curtain_42 rfl (lv_at hl 0 rfl) ?_
          obtain ⟨S3, h3, h⟩ := ob_ok h
          refine hr_Vv (S' := S3) (As := []) (rest := []) C cf12 (c_X12_yearGoes l E _ _ h3) yv_X12_yearGoes lk_RX12_517 rfl aM_0 rfl rfl hl.1 (Nat.le_of_ble_eq_true rfl) (by decide) (by decide) hR (ho_A hR) dX12_curtain_43 (fun H locs hR => ?_)
          obtain ⟨v4, e4, h⟩ := le1_ok h
          refine lv_iinc (v := v4) (lv' := [(1, .int v4), (0, .ref (E.2.1 0))]) C.1 C.2.1 dX12_curtain_46 hl (k := 1) rfl (by rw [e4]; rfl) (by decide) rfl (fun ls hl => ?_)
          refine lv_goto (tgt := 15) C.1 C.2.1 dX12_curtain_49 (by decide) ?_
          exact ih v4 S3 h _ _ _ hR (lv_sub hl [1, 0] rfl)
def f_X12_curtain (S : Hp) : Option (Int32 × Hp) :=
  if (S.1 0 52) = 0 then some ((-1 : Int32), S) else ob (f_X12_putsAside S) (fun S1 => f_X12_curtain_15 5000 (0 : Int32) S1)
set_option maxHeartbeats 4000000 in
set_option maxRecDepth 100000 in
theorem c_X12_curtain (l : Launch) (E : Ev) (S : Hp) (r : (Int32 × Hp)) (h : f_X12_curtain S = some r) : ho_M l yM E yX12_curtain cX12_curtain 3 (some .int) 9 [.ref (E.2.1 0)] S (some (.int r.1), r.2) := by
  refine ho_in (by decide) (Nat.le_of_ble_eq_true rfl) ?_
  intro p e s m args below meth c C hR ls hl
  have C : ho_I p s m args meth c RX12 cX12_curtain 3 (some .int) := C
  have hl : lv_has ls 3 [(0, .ref (E.2.1 0))] := hl
  unfold f_X12_curtain at h
  refine lv_aload_n C.1 C.2.1 dX12_curtain_0 rfl (lv_at hl 0 rfl) ?_
  refine ho_getI C cf12 fM_397 hR aM_0 dX12_curtain_1 ?_
  refine lv_if_ne (tgt := 9) C.1 C.2.1 dX12_curtain_4 (by decide) (fun hc => ?_) (fun hc => ?_)
  · replace h := if_f h hc
    refine lv_iconst (v := (0 : Int32)) C.1 C.2.1 dX12_curtain_9 (by decide) ?_
    refine lv_istore_n (lv' := [(1, .int (0 : Int32)), (0, .ref (E.2.1 0))]) C.1 C.2.1 dX12_curtain_10 rfl hl (by decide) rfl (fun ls hl => ?_)
    refine lv_aload_n C.1 C.2.1 dX12_curtain_11 rfl (lv_at hl 1 rfl) ?_
    obtain ⟨S1, h1, h⟩ := ob_ok h
    refine hr_Vv (S' := S1) (As := []) (rest := []) C cf12 (c_X12_putsAside l E _ _ h1) yv_X12_putsAside lk_RX12_556 rfl aM_0 rfl rfl hl.1 (Nat.le_of_ble_eq_true rfl) (by decide) (by decide) hR (ho_A hR) dX12_curtain_12 (fun H locs hR => ?_)
    exact w_X12_curtain_15 C 5000 (0 : Int32) S1 h _ _ _ hR (lv_sub hl [1, 0] rfl)
  · replace h := if_t h hc
    refine lv_iconst (v := (-1 : Int32)) C.1 C.2.1 dX12_curtain_7 (by decide) ?_
    exact ho_iret C hR h dX12_curtain_8
theorem dX12_both_0 : decode cX12_both 0 = .ok (.aload_n 0, 1) := by decide +kernel
theorem dX12_both_1 : decode cX12_both 1 = .ok (.iconst 2, 1) := by decide +kernel
theorem dX12_both_2 : decode cX12_both 2 = .ok (.iconst 2, 1) := by decide +kernel
theorem dX12_both_3 : decode cX12_both 3 = .ok (.iconst 2, 1) := by decide +kernel
theorem dX12_both_4 : decode cX12_both 4 = .ok (.invokevirtual 551, 3) := by decide +kernel
theorem dX12_both_7 : decode cX12_both 7 = .ok (.ifCond .eq 15, 3) := by decide +kernel
theorem dX12_both_10 : decode cX12_both 10 = .ok (.iload_n 1, 1) := by decide +kernel
theorem dX12_both_11 : decode cX12_both 11 = .ok (.i2l, 1) := by decide +kernel
theorem dX12_both_12 : decode cX12_both 12 = .ok (.lconst 0, 1) := by decide +kernel
theorem dX12_both_13 : decode cX12_both 13 = .ok (.ldc2_w 554, 3) := by decide +kernel
theorem dX12_both_16 : decode cX12_both 16 = .ok (.invokestatic 304, 3) := by decide +kernel
theorem dX12_both_19 : decode cX12_both 19 = .ok (.ifCond .ne 5, 3) := by decide +kernel
theorem dX12_both_22 : decode cX12_both 22 = .ok (.iconst (-1), 1) := by decide +kernel
theorem dX12_both_23 : decode cX12_both 23 = .ok (.ireturn, 1) := by decide +kernel
theorem dX12_both_24 : decode cX12_both 24 = .ok (.iconst (-1), 1) := by decide +kernel
theorem dX12_both_25 : decode cX12_both 25 = .ok (.istore_n 2, 1) := by decide +kernel
theorem dX12_both_26 : decode cX12_both 26 = .ok (.iconst 0, 1) := by decide +kernel
theorem dX12_both_27 : decode cX12_both 27 = .ok (.istore_n 3, 1) := by decide +kernel
theorem dX12_both_28 : decode cX12_both 28 = .ok (.iconst 0, 1) := by decide +kernel
theorem dX12_both_29 : decode cX12_both 29 = .ok (.istore 4, 2) := by decide +kernel
theorem dX12_both_31 : decode cX12_both 31 = .ok (.iconst 0, 1) := by decide +kernel
theorem dX12_both_32 : decode cX12_both 32 = .ok (.istore 5, 2) := by decide +kernel
theorem dX12_both_34 : decode cX12_both 34 = .ok (.aload_n 0, 1) := by decide +kernel
theorem dX12_both_35 : decode cX12_both 35 = .ok (.invokevirtual 556, 3) := by decide +kernel
theorem dX12_both_38 : decode cX12_both 38 = .ok (.iconst 0, 1) := by decide +kernel
theorem dX12_both_39 : decode cX12_both 39 = .ok (.istore 6, 2) := by decide +kernel
theorem dX12_both_41 : decode cX12_both 41 = .ok (.iload 6, 2) := by decide +kernel
theorem dX12_both_43 : decode cX12_both 43 = .ok (.aload_n 0, 1) := by decide +kernel
theorem dX12_both_44 : decode cX12_both 44 = .ok (.invokevirtual 452, 3) := by decide +kernel
theorem dX12_both_47 : decode cX12_both 47 = .ok (.if_icmp .gt 195, 3) := by decide +kernel
theorem dX12_both_50 : decode cX12_both 50 = .ok (.aload_n 0, 1) := by decide +kernel
theorem dX12_both_51 : decode cX12_both 51 = .ok (.iload 6, 2) := by decide +kernel
theorem dX12_both_53 : decode cX12_both 53 = .ok (.invokevirtual 476, 3) := by decide +kernel
theorem dX12_both_56 : decode cX12_both 56 = .ok (.ifCond .ne 6, 3) := by decide +kernel
theorem dX12_both_59 : decode cX12_both 59 = .ok (.goto 177, 3) := by decide +kernel
theorem dX12_both_62 : decode cX12_both 62 = .ok (.aload_n 0, 1) := by decide +kernel
theorem dX12_both_63 : decode cX12_both 63 = .ok (.invokevirtual 458, 3) := by decide +kernel
theorem dX12_both_66 : decode cX12_both 66 = .ok (.aload_n 0, 1) := by decide +kernel
theorem dX12_both_67 : decode cX12_both 67 = .ok (.iload 6, 2) := by decide +kernel
theorem dX12_both_69 : decode cX12_both 69 = .ok (.invokevirtual 514, 3) := by decide +kernel
theorem dX12_both_72 : decode cX12_both 72 = .ok (.iconst 0, 1) := by decide +kernel
theorem dX12_both_73 : decode cX12_both 73 = .ok (.istore 7, 2) := by decide +kernel
theorem dX12_both_75 : decode cX12_both 75 = .ok (.iload 7, 2) := by decide +kernel
theorem dX12_both_77 : decode cX12_both 77 = .ok (.bipush 26, 2) := by decide +kernel
theorem dX12_both_79 : decode cX12_both 79 = .ok (.if_icmp .ge 23, 3) := by decide +kernel
theorem dX12_both_82 : decode cX12_both 82 = .ok (.aload_n 0, 1) := by decide +kernel
theorem dX12_both_83 : decode cX12_both 83 = .ok (.getfield 157, 3) := by decide +kernel
theorem dX12_both_86 : decode cX12_both 86 = .ok (.iload 7, 2) := by decide +kernel
theorem dX12_both_88 : decode cX12_both 88 = .ok (.aload_n 0, 1) := by decide +kernel
theorem dX12_both_89 : decode cX12_both 89 = .ok (.getfield 139, 3) := by decide +kernel
theorem dX12_both_92 : decode cX12_both 92 = .ok (.iload 7, 2) := by decide +kernel
theorem dX12_both_94 : decode cX12_both 94 = .ok (.iaload, 1) := by decide +kernel
theorem dX12_both_95 : decode cX12_both 95 = .ok (.iastore, 1) := by decide +kernel
theorem dX12_both_96 : decode cX12_both 96 = .ok (.iinc 7 1, 3) := by decide +kernel
theorem dX12_both_99 : decode cX12_both 99 = .ok (.goto (-24), 3) := by decide +kernel
theorem dX12_both_102 : decode cX12_both 102 = .ok (.iconst 0, 1) := by decide +kernel
theorem dX12_both_103 : decode cX12_both 103 = .ok (.istore 7, 2) := by decide +kernel
theorem dX12_both_105 : decode cX12_both 105 = .ok (.iload 7, 2) := by decide +kernel
theorem dX12_both_107 : decode cX12_both 107 = .ok (.aload_n 0, 1) := by decide +kernel
theorem dX12_both_108 : decode cX12_both 108 = .ok (.invokevirtual 452, 3) := by decide +kernel
theorem dX12_both_111 : decode cX12_both 111 = .ok (.if_icmp .gt 121, 3) := by decide +kernel
theorem dX12_both_114 : decode cX12_both 114 = .ok (.aload_n 0, 1) := by decide +kernel
theorem dX12_both_115 : decode cX12_both 115 = .ok (.iload 7, 2) := by decide +kernel
theorem dX12_both_117 : decode cX12_both 117 = .ok (.invokevirtual 476, 3) := by decide +kernel
theorem dX12_both_120 : decode cX12_both 120 = .ok (.ifCond .ne 6, 3) := by decide +kernel
theorem dX12_both_123 : decode cX12_both 123 = .ok (.goto 103, 3) := by decide +kernel
theorem dX12_both_126 : decode cX12_both 126 = .ok (.aload_n 0, 1) := by decide +kernel
theorem dX12_both_127 : decode cX12_both 127 = .ok (.invokevirtual 458, 3) := by decide +kernel
theorem dX12_both_130 : decode cX12_both 130 = .ok (.aload_n 0, 1) := by decide +kernel
theorem dX12_both_131 : decode cX12_both 131 = .ok (.iload 7, 2) := by decide +kernel
theorem dX12_both_133 : decode cX12_both 133 = .ok (.invokevirtual 514, 3) := by decide +kernel
theorem dX12_both_136 : decode cX12_both 136 = .ok (.iload_n 2, 1) := by decide +kernel
theorem dX12_both_137 : decode cX12_both 137 = .ok (.iconst (-1), 1) := by decide +kernel
theorem dX12_both_138 : decode cX12_both 138 = .ok (.if_icmp .eq 36, 3) := by decide +kernel
theorem dX12_both_141 : decode cX12_both 141 = .ok (.aload_n 0, 1) := by decide +kernel
theorem dX12_both_142 : decode cX12_both 142 = .ok (.getfield 139, 3) := by decide +kernel
theorem dX12_both_145 : decode cX12_both 145 = .ok (.iconst 1, 1) := by decide +kernel
theorem dX12_both_146 : decode cX12_both 146 = .ok (.iaload, 1) := by decide +kernel
theorem dX12_both_147 : decode cX12_both 147 = .ok (.iload 4, 2) := by decide +kernel
theorem dX12_both_149 : decode cX12_both 149 = .ok (.if_icmp .lt 25, 3) := by decide +kernel
theorem dX12_both_152 : decode cX12_both 152 = .ok (.aload_n 0, 1) := by decide +kernel
theorem dX12_both_153 : decode cX12_both 153 = .ok (.getfield 139, 3) := by decide +kernel
theorem dX12_both_156 : decode cX12_both 156 = .ok (.iconst 1, 1) := by decide +kernel
theorem dX12_both_157 : decode cX12_both 157 = .ok (.iaload, 1) := by decide +kernel
theorem dX12_both_158 : decode cX12_both 158 = .ok (.iload 4, 2) := by decide +kernel
theorem dX12_both_160 : decode cX12_both 160 = .ok (.if_icmp .ne 36, 3) := by decide +kernel
theorem dX12_both_163 : decode cX12_both 163 = .ok (.aload_n 0, 1) := by decide +kernel
theorem dX12_both_164 : decode cX12_both 164 = .ok (.getfield 139, 3) := by decide +kernel
theorem dX12_both_167 : decode cX12_both 167 = .ok (.iconst 2, 1) := by decide +kernel
theorem dX12_both_168 : decode cX12_both 168 = .ok (.iaload, 1) := by decide +kernel
theorem dX12_both_169 : decode cX12_both 169 = .ok (.iload 5, 2) := by decide +kernel
theorem dX12_both_171 : decode cX12_both 171 = .ok (.if_icmp .le 25, 3) := by decide +kernel
theorem dX12_both_174 : decode cX12_both 174 = .ok (.iload 6, 2) := by decide +kernel
theorem dX12_both_176 : decode cX12_both 176 = .ok (.istore_n 2, 1) := by decide +kernel
theorem dX12_both_177 : decode cX12_both 177 = .ok (.iload 7, 2) := by decide +kernel
theorem dX12_both_179 : decode cX12_both 179 = .ok (.istore_n 3, 1) := by decide +kernel
theorem dX12_both_180 : decode cX12_both 180 = .ok (.aload_n 0, 1) := by decide +kernel
theorem dX12_both_181 : decode cX12_both 181 = .ok (.getfield 139, 3) := by decide +kernel
theorem dX12_both_184 : decode cX12_both 184 = .ok (.iconst 1, 1) := by decide +kernel
theorem dX12_both_185 : decode cX12_both 185 = .ok (.iaload, 1) := by decide +kernel
theorem dX12_both_186 : decode cX12_both 186 = .ok (.istore 4, 2) := by decide +kernel
theorem dX12_both_188 : decode cX12_both 188 = .ok (.aload_n 0, 1) := by decide +kernel
theorem dX12_both_189 : decode cX12_both 189 = .ok (.getfield 139, 3) := by decide +kernel
theorem dX12_both_192 : decode cX12_both 192 = .ok (.iconst 2, 1) := by decide +kernel
theorem dX12_both_193 : decode cX12_both 193 = .ok (.iaload, 1) := by decide +kernel
theorem dX12_both_194 : decode cX12_both 194 = .ok (.istore 5, 2) := by decide +kernel
theorem dX12_both_196 : decode cX12_both 196 = .ok (.iconst 0, 1) := by decide +kernel
theorem dX12_both_197 : decode cX12_both 197 = .ok (.istore 8, 2) := by decide +kernel
theorem dX12_both_199 : decode cX12_both 199 = .ok (.iload 8, 2) := by decide +kernel
theorem dX12_both_201 : decode cX12_both 201 = .ok (.bipush 26, 2) := by decide +kernel
theorem dX12_both_203 : decode cX12_both 203 = .ok (.if_icmp .ge 23, 3) := by decide +kernel
theorem dX12_both_206 : decode cX12_both 206 = .ok (.aload_n 0, 1) := by decide +kernel
theorem dX12_both_207 : decode cX12_both 207 = .ok (.getfield 139, 3) := by decide +kernel
theorem dX12_both_210 : decode cX12_both 210 = .ok (.iload 8, 2) := by decide +kernel
theorem dX12_both_212 : decode cX12_both 212 = .ok (.aload_n 0, 1) := by decide +kernel
theorem dX12_both_213 : decode cX12_both 213 = .ok (.getfield 157, 3) := by decide +kernel
theorem dX12_both_216 : decode cX12_both 216 = .ok (.iload 8, 2) := by decide +kernel
theorem dX12_both_218 : decode cX12_both 218 = .ok (.iaload, 1) := by decide +kernel
theorem dX12_both_219 : decode cX12_both 219 = .ok (.iastore, 1) := by decide +kernel
theorem dX12_both_220 : decode cX12_both 220 = .ok (.iinc 8 1, 3) := by decide +kernel
theorem dX12_both_223 : decode cX12_both 223 = .ok (.goto (-24), 3) := by decide +kernel
theorem dX12_both_226 : decode cX12_both 226 = .ok (.iinc 7 1, 3) := by decide +kernel
theorem dX12_both_229 : decode cX12_both 229 = .ok (.goto (-124), 3) := by decide +kernel
theorem dX12_both_232 : decode cX12_both 232 = .ok (.aload_n 0, 1) := by decide +kernel
theorem dX12_both_233 : decode cX12_both 233 = .ok (.invokevirtual 520, 3) := by decide +kernel
theorem dX12_both_236 : decode cX12_both 236 = .ok (.iinc 6 1, 3) := by decide +kernel
theorem dX12_both_239 : decode cX12_both 239 = .ok (.goto (-198), 3) := by decide +kernel
theorem dX12_both_242 : decode cX12_both 242 = .ok (.aload_n 0, 1) := by decide +kernel
theorem dX12_both_243 : decode cX12_both 243 = .ok (.invokevirtual 562, 3) := by decide +kernel
theorem dX12_both_246 : decode cX12_both 246 = .ok (.iload_n 1, 1) := by decide +kernel
theorem dX12_both_247 : decode cX12_both 247 = .ok (.ifCond .ne 7, 3) := by decide +kernel
theorem dX12_both_250 : decode cX12_both 250 = .ok (.iload_n 2, 1) := by decide +kernel
theorem dX12_both_251 : decode cX12_both 251 = .ok (.goto 24, 3) := by decide +kernel
theorem dX12_both_254 : decode cX12_both 254 = .ok (.iload_n 1, 1) := by decide +kernel
theorem dX12_both_255 : decode cX12_both 255 = .ok (.iconst 1, 1) := by decide +kernel
theorem dX12_both_256 : decode cX12_both 256 = .ok (.if_icmp .ne 7, 3) := by decide +kernel
theorem dX12_both_259 : decode cX12_both 259 = .ok (.iload_n 3, 1) := by decide +kernel
theorem dX12_both_260 : decode cX12_both 260 = .ok (.goto 15, 3) := by decide +kernel
theorem dX12_both_263 : decode cX12_both 263 = .ok (.iload_n 1, 1) := by decide +kernel
theorem dX12_both_264 : decode cX12_both 264 = .ok (.iconst 2, 1) := by decide +kernel
theorem dX12_both_265 : decode cX12_both 265 = .ok (.if_icmp .ne 8, 3) := by decide +kernel
theorem dX12_both_268 : decode cX12_both 268 = .ok (.iload 4, 2) := by decide +kernel
theorem dX12_both_270 : decode cX12_both 270 = .ok (.goto 5, 3) := by decide +kernel
theorem dX12_both_273 : decode cX12_both 273 = .ok (.iload 5, 2) := by decide +kernel
theorem dX12_both_275 : decode cX12_both 275 = .ok (.ireturn, 1) := by decide +kernel
def f_X12_both_236 (K41 : Int32 → Int32 → Int32 → Int32 → Int32 → Int32 → Hp → Option (Int32 × Hp)) (x1 : Int32) (x2 : Int32) (x3 : Int32) (x4 : Int32) (x5 : Int32) (x6 : Int32) (S : Hp) : Option (Int32 × Hp) :=
  le1 (x6 + (1 : Int32)) (fun v1 => K41 x1 x2 x3 x4 x5 v1 S)
set_option maxHeartbeats 4000000 in
set_option maxRecDepth 100000 in
theorem w_X12_both_236 {p : Program} {l : Launch} {e : Env} {s : State} {m : MethodId} {args : Array Value} {below : List Frame} {meth : Method} {c : Code} {E : Ev} {S0 : Hp} {r : (Int32 × Hp)} (C : ho_I p s m args meth c RX12 cX12_both 9 (some .int)) (K41 : Int32 → Int32 → Int32 → Int32 → Int32 → Int32 → Hp → Option (Int32 × Hp)) (hK41 : ∀ (y1 : Int32) (y2 : Int32) (y3 : Int32) (y4 : Int32) (y5 : Int32) (y6 : Int32) (S : Hp), K41 y1 y2 y3 y4 y5 y6 S = some r → ho_G p l e s m args below meth c yM E S0 8 9 (some (.int r.1), r.2) 41 [(0, .ref (E.2.1 0)), (1, .int y1), (2, .int y2), (3, .int y3), (4, .int y4), (5, .int y5), (6, .int y6)] [] S) :
    ∀ (x1 : Int32) (x2 : Int32) (x3 : Int32) (x4 : Int32) (x5 : Int32) (x6 : Int32) (S : Hp), f_X12_both_236 K41 x1 x2 x3 x4 x5 x6 S = some r → ho_G p l e s m args below meth c yM E S0 8 9 (some (.int r.1), r.2) 236 [(0, .ref (E.2.1 0)), (1, .int x1), (2, .int x2), (3, .int x3), (4, .int x4), (5, .int x5), (6, .int x6)] [] S := by
  intro x1 x2 x3 x4 x5 x6 S h H locs ls hR hl
  unfold f_X12_both_236 at h
  obtain ⟨v1, e1, h⟩ := le1_ok h
  refine lv_iinc (v := v1) (lv' := [(6, .int v1), (0, .ref (E.2.1 0)), (1, .int x1), (2, .int x2), (3, .int x3), (4, .int x4), (5, .int x5)]) C.1 C.2.1 dX12_both_236 hl (k := 6) rfl (by rw [e1]; rfl) (by decide) rfl (fun ls hl => ?_)
  refine lv_goto (tgt := 41) C.1 C.2.1 dX12_both_239 (by decide) ?_
  exact hK41 x1 x2 x3 x4 x5 v1 S h _ _ _ hR (lv_sub hl [1, 2, 3, 4, 5, 6, 0] rfl)
def f_X12_both_226 (K41 : Int32 → Int32 → Int32 → Int32 → Int32 → Int32 → Hp → Option (Int32 × Hp)) (K105 : Int32 → Int32 → Int32 → Int32 → Int32 → Int32 → Int32 → Hp → Option (Int32 × Hp)) (x1 : Int32) (x2 : Int32) (x3 : Int32) (x4 : Int32) (x5 : Int32) (x6 : Int32) (x7 : Int32) (S : Hp) : Option (Int32 × Hp) :=
  le1 (x7 + (1 : Int32)) (fun v1 => K105 x1 x2 x3 x4 x5 x6 v1 S)
set_option maxHeartbeats 4000000 in
set_option maxRecDepth 100000 in
theorem w_X12_both_226 {p : Program} {l : Launch} {e : Env} {s : State} {m : MethodId} {args : Array Value} {below : List Frame} {meth : Method} {c : Code} {E : Ev} {S0 : Hp} {r : (Int32 × Hp)} (C : ho_I p s m args meth c RX12 cX12_both 9 (some .int)) (K41 : Int32 → Int32 → Int32 → Int32 → Int32 → Int32 → Hp → Option (Int32 × Hp)) (K105 : Int32 → Int32 → Int32 → Int32 → Int32 → Int32 → Int32 → Hp → Option (Int32 × Hp)) (hK41 : ∀ (y1 : Int32) (y2 : Int32) (y3 : Int32) (y4 : Int32) (y5 : Int32) (y6 : Int32) (S : Hp), K41 y1 y2 y3 y4 y5 y6 S = some r → ho_G p l e s m args below meth c yM E S0 8 9 (some (.int r.1), r.2) 41 [(0, .ref (E.2.1 0)), (1, .int y1), (2, .int y2), (3, .int y3), (4, .int y4), (5, .int y5), (6, .int y6)] [] S) (hK105 : ∀ (y1 : Int32) (y2 : Int32) (y3 : Int32) (y4 : Int32) (y5 : Int32) (y6 : Int32) (y7 : Int32) (S : Hp), K105 y1 y2 y3 y4 y5 y6 y7 S = some r → ho_G p l e s m args below meth c yM E S0 8 9 (some (.int r.1), r.2) 105 [(0, .ref (E.2.1 0)), (1, .int y1), (2, .int y2), (3, .int y3), (4, .int y4), (5, .int y5), (6, .int y6), (7, .int y7)] [] S) :
    ∀ (x1 : Int32) (x2 : Int32) (x3 : Int32) (x4 : Int32) (x5 : Int32) (x6 : Int32) (x7 : Int32) (S : Hp), f_X12_both_226 K41 K105 x1 x2 x3 x4 x5 x6 x7 S = some r → ho_G p l e s m args below meth c yM E S0 8 9 (some (.int r.1), r.2) 226 [(0, .ref (E.2.1 0)), (1, .int x1), (2, .int x2), (3, .int x3), (4, .int x4), (5, .int x5), (6, .int x6), (7, .int x7)] [] S := by
  intro x1 x2 x3 x4 x5 x6 x7 S h H locs ls hR hl
  unfold f_X12_both_226 at h
  obtain ⟨v1, e1, h⟩ := le1_ok h
  refine lv_iinc (v := v1) (lv' := [(7, .int v1), (0, .ref (E.2.1 0)), (1, .int x1), (2, .int x2), (3, .int x3), (4, .int x4), (5, .int x5), (6, .int x6)]) C.1 C.2.1 dX12_both_226 hl (k := 7) rfl (by rw [e1]; rfl) (by decide) rfl (fun ls hl => ?_)
  refine lv_goto (tgt := 105) C.1 C.2.1 dX12_both_229 (by decide) ?_
  exact hK105 x1 x2 x3 x4 x5 x6 v1 S h _ _ _ hR (lv_sub hl [1, 2, 3, 4, 5, 6, 7, 0] rfl)
def f_X12_both_199 (K41 : Int32 → Int32 → Int32 → Int32 → Int32 → Int32 → Hp → Option (Int32 × Hp)) (K105 : Int32 → Int32 → Int32 → Int32 → Int32 → Int32 → Int32 → Hp → Option (Int32 × Hp)) : Nat → Int32 → Int32 → Int32 → Int32 → Int32 → Int32 → Int32 → Int32 → Hp → Option (Int32 × Hp)
  | 0, _, _, _, _, _, _, _, _, _ => none
  | k + 1, x1, x2, x3, x4, x5, x6, x7, x8, S => if (26 : Int32) ≤ x8 then f_X12_both_226 K41 K105 x1 x2 x3 x4 x5 x6 x7 S else ldI S 66 26 x8 (fun v1 => stI S 55 117 x8 v1 (fun S2 => le1 (x8 + (1 : Int32)) (fun v3 => f_X12_both_199 K41 K105 k x1 x2 x3 x4 x5 x6 x7 v3 S2)))
set_option maxHeartbeats 4000000 in
set_option maxRecDepth 100000 in
theorem w_X12_both_199 {p : Program} {l : Launch} {e : Env} {s : State} {m : MethodId} {args : Array Value} {below : List Frame} {meth : Method} {c : Code} {E : Ev} {S0 : Hp} {r : (Int32 × Hp)} (C : ho_I p s m args meth c RX12 cX12_both 9 (some .int)) (K41 : Int32 → Int32 → Int32 → Int32 → Int32 → Int32 → Hp → Option (Int32 × Hp)) (K105 : Int32 → Int32 → Int32 → Int32 → Int32 → Int32 → Int32 → Hp → Option (Int32 × Hp)) (hK41 : ∀ (y1 : Int32) (y2 : Int32) (y3 : Int32) (y4 : Int32) (y5 : Int32) (y6 : Int32) (S : Hp), K41 y1 y2 y3 y4 y5 y6 S = some r → ho_G p l e s m args below meth c yM E S0 8 9 (some (.int r.1), r.2) 41 [(0, .ref (E.2.1 0)), (1, .int y1), (2, .int y2), (3, .int y3), (4, .int y4), (5, .int y5), (6, .int y6)] [] S) (hK105 : ∀ (y1 : Int32) (y2 : Int32) (y3 : Int32) (y4 : Int32) (y5 : Int32) (y6 : Int32) (y7 : Int32) (S : Hp), K105 y1 y2 y3 y4 y5 y6 y7 S = some r → ho_G p l e s m args below meth c yM E S0 8 9 (some (.int r.1), r.2) 105 [(0, .ref (E.2.1 0)), (1, .int y1), (2, .int y2), (3, .int y3), (4, .int y4), (5, .int y5), (6, .int y6), (7, .int y7)] [] S) :
    ∀ (k : Nat) (x1 : Int32) (x2 : Int32) (x3 : Int32) (x4 : Int32) (x5 : Int32) (x6 : Int32) (x7 : Int32) (x8 : Int32) (S : Hp), f_X12_both_199 K41 K105 k x1 x2 x3 x4 x5 x6 x7 x8 S = some r → ho_G p l e s m args below meth c yM E S0 8 9 (some (.int r.1), r.2) 199 [(0, .ref (E.2.1 0)), (1, .int x1), (2, .int x2), (3, .int x3), (4, .int x4), (5, .int x5), (6, .int x6), (7, .int x7), (8, .int x8)] [] S := by
  intro k
  induction k with
  | zero =>
    intro x1 x2 x3 x4 x5 x6 x7 x8 S h
    exact absurd (show (none : Option (Int32 × Hp)) = some r from h) (by simp)
  | succ k ih =>
    intro x1 x2 x3 x4 x5 x6 x7 x8 S h H locs ls hR hl
    rw [f_X12_both_199] at h
    refine lv_iload C.1 C.2.1 dX12_both_199 (lv_at hl 8 rfl) ?_
    refine lv_bipush (v := (26 : Int32)) C.1 C.2.1 dX12_both_201 (by decide) ?_
    refine lv_icmp_ge (tgt := 226) C.1 C.2.1 dX12_both_203 (by decide) (fun hc => ?_) (fun hc => ?_)
    · replace h := if_t h hc
      exact w_X12_both_226 C K41 K105 hK41 hK105 x1 x2 x3 x4 x5 x6 x7 S h _ _ _ hR (lv_sub hl [0, 1, 2, 3, 4, 5, 6, 7] rfl)
    · replace h := if_f h hc
      refine lv_aload_n C.1 C.2.1 dX12_both_206 rfl (lv_at hl 0 rfl) ?_
      refine ho_getR (a' := 55) C cf12 fM_139 hR aM_0 rfl dX12_both_207 ?_
      refine lv_iload C.1 C.2.1 dX12_both_210 (lv_at hl 8 rfl) ?_
      refine lv_aload_n C.1 C.2.1 dX12_both_212 rfl (lv_at hl 0 rfl) ?_
      refine ho_getR (a' := 66) C cf12 fM_157 hR aM_0 rfl dX12_both_213 ?_
      refine lv_iload C.1 C.2.1 dX12_both_216 (lv_at hl 8 rfl) ?_
      obtain ⟨v1, e1, hi1, h⟩ := ldI_ok h
      refine hr_ild C hR aM_66 hi1 e1 dX12_both_218 ?_
      obtain ⟨S2, e2, hi2, h⟩ := stI_ok h
      refine hr_ist C hR aM_55 hi2 e2 dX12_both_219 (fun H locs hR => ?_)
      obtain ⟨v3, e3, h⟩ := le1_ok h
      refine lv_iinc (v := v3) (lv' := [(8, .int v3), (0, .ref (E.2.1 0)), (1, .int x1), (2, .int x2), (3, .int x3), (4, .int x4), (5, .int x5), (6, .int x6), (7, .int x7)]) C.1 C.2.1 dX12_both_220 hl (k := 8) rfl (by rw [e3]; rfl) (by decide) rfl (fun ls hl => ?_)
      refine lv_goto (tgt := 199) C.1 C.2.1 dX12_both_223 (by decide) ?_
      exact ih x1 x2 x3 x4 x5 x6 x7 v3 S2 h _ _ _ hR (lv_sub hl [1, 2, 3, 4, 5, 6, 7, 8, 0] rfl)
def f_X12_both_196 (K41 : Int32 → Int32 → Int32 → Int32 → Int32 → Int32 → Hp → Option (Int32 × Hp)) (K105 : Int32 → Int32 → Int32 → Int32 → Int32 → Int32 → Int32 → Hp → Option (Int32 × Hp)) (x1 : Int32) (x2 : Int32) (x3 : Int32) (x4 : Int32) (x5 : Int32) (x6 : Int32) (x7 : Int32) (S : Hp) : Option (Int32 × Hp) :=
  f_X12_both_199 K41 K105 5000 x1 x2 x3 x4 x5 x6 x7 (0 : Int32) S
set_option maxHeartbeats 4000000 in
set_option maxRecDepth 100000 in
theorem w_X12_both_196 {p : Program} {l : Launch} {e : Env} {s : State} {m : MethodId} {args : Array Value} {below : List Frame} {meth : Method} {c : Code} {E : Ev} {S0 : Hp} {r : (Int32 × Hp)} (C : ho_I p s m args meth c RX12 cX12_both 9 (some .int)) (K41 : Int32 → Int32 → Int32 → Int32 → Int32 → Int32 → Hp → Option (Int32 × Hp)) (K105 : Int32 → Int32 → Int32 → Int32 → Int32 → Int32 → Int32 → Hp → Option (Int32 × Hp)) (hK41 : ∀ (y1 : Int32) (y2 : Int32) (y3 : Int32) (y4 : Int32) (y5 : Int32) (y6 : Int32) (S : Hp), K41 y1 y2 y3 y4 y5 y6 S = some r → ho_G p l e s m args below meth c yM E S0 8 9 (some (.int r.1), r.2) 41 [(0, .ref (E.2.1 0)), (1, .int y1), (2, .int y2), (3, .int y3), (4, .int y4), (5, .int y5), (6, .int y6)] [] S) (hK105 : ∀ (y1 : Int32) (y2 : Int32) (y3 : Int32) (y4 : Int32) (y5 : Int32) (y6 : Int32) (y7 : Int32) (S : Hp), K105 y1 y2 y3 y4 y5 y6 y7 S = some r → ho_G p l e s m args below meth c yM E S0 8 9 (some (.int r.1), r.2) 105 [(0, .ref (E.2.1 0)), (1, .int y1), (2, .int y2), (3, .int y3), (4, .int y4), (5, .int y5), (6, .int y6), (7, .int y7)] [] S) :
    ∀ (x1 : Int32) (x2 : Int32) (x3 : Int32) (x4 : Int32) (x5 : Int32) (x6 : Int32) (x7 : Int32) (S : Hp), f_X12_both_196 K41 K105 x1 x2 x3 x4 x5 x6 x7 S = some r → ho_G p l e s m args below meth c yM E S0 8 9 (some (.int r.1), r.2) 196 [(0, .ref (E.2.1 0)), (1, .int x1), (2, .int x2), (3, .int x3), (4, .int x4), (5, .int x5), (6, .int x6), (7, .int x7)] [] S := by
  intro x1 x2 x3 x4 x5 x6 x7 S h H locs ls hR hl
  unfold f_X12_both_196 at h
  refine lv_iconst (v := (0 : Int32)) C.1 C.2.1 dX12_both_196 (by decide) ?_
  refine lv_istore (lv' := [(8, .int (0 : Int32)), (0, .ref (E.2.1 0)), (1, .int x1), (2, .int x2), (3, .int x3), (4, .int x4), (5, .int x5), (6, .int x6), (7, .int x7)]) C.1 C.2.1 dX12_both_197 hl (by decide) rfl (fun ls hl => ?_)
  exact w_X12_both_199 C K41 K105 hK41 hK105 5000 x1 x2 x3 x4 x5 x6 x7 (0 : Int32) S h _ _ _ hR (lv_sub hl [1, 2, 3, 4, 5, 6, 7, 8, 0] rfl)
def f_X12_both_174 (K41 : Int32 → Int32 → Int32 → Int32 → Int32 → Int32 → Hp → Option (Int32 × Hp)) (K105 : Int32 → Int32 → Int32 → Int32 → Int32 → Int32 → Int32 → Hp → Option (Int32 × Hp)) (x1 : Int32) (x6 : Int32) (x7 : Int32) (S : Hp) : Option (Int32 × Hp) :=
  ldI S 55 117 (1 : Int32) (fun v1 => ldI S 55 117 (2 : Int32) (fun v2 => f_X12_both_196 K41 K105 x1 x6 x7 v1 v2 x6 x7 S))
set_option maxHeartbeats 4000000 in
set_option maxRecDepth 100000 in
theorem w_X12_both_174 {p : Program} {l : Launch} {e : Env} {s : State} {m : MethodId} {args : Array Value} {below : List Frame} {meth : Method} {c : Code} {E : Ev} {S0 : Hp} {r : (Int32 × Hp)} (C : ho_I p s m args meth c RX12 cX12_both 9 (some .int)) (K41 : Int32 → Int32 → Int32 → Int32 → Int32 → Int32 → Hp → Option (Int32 × Hp)) (K105 : Int32 → Int32 → Int32 → Int32 → Int32 → Int32 → Int32 → Hp → Option (Int32 × Hp)) (hK41 : ∀ (y1 : Int32) (y2 : Int32) (y3 : Int32) (y4 : Int32) (y5 : Int32) (y6 : Int32) (S : Hp), K41 y1 y2 y3 y4 y5 y6 S = some r → ho_G p l e s m args below meth c yM E S0 8 9 (some (.int r.1), r.2) 41 [(0, .ref (E.2.1 0)), (1, .int y1), (2, .int y2), (3, .int y3), (4, .int y4), (5, .int y5), (6, .int y6)] [] S) (hK105 : ∀ (y1 : Int32) (y2 : Int32) (y3 : Int32) (y4 : Int32) (y5 : Int32) (y6 : Int32) (y7 : Int32) (S : Hp), K105 y1 y2 y3 y4 y5 y6 y7 S = some r → ho_G p l e s m args below meth c yM E S0 8 9 (some (.int r.1), r.2) 105 [(0, .ref (E.2.1 0)), (1, .int y1), (2, .int y2), (3, .int y3), (4, .int y4), (5, .int y5), (6, .int y6), (7, .int y7)] [] S) :
    ∀ (x1 : Int32) (x6 : Int32) (x7 : Int32) (S : Hp), f_X12_both_174 K41 K105 x1 x6 x7 S = some r → ho_G p l e s m args below meth c yM E S0 8 9 (some (.int r.1), r.2) 174 [(0, .ref (E.2.1 0)), (1, .int x1), (6, .int x6), (7, .int x7)] [] S := by
  intro x1 x6 x7 S h H locs ls hR hl
  unfold f_X12_both_174 at h
  refine lv_iload C.1 C.2.1 dX12_both_174 (lv_at hl 2 rfl) ?_
  refine lv_istore_n (lv' := [(2, .int x6), (0, .ref (E.2.1 0)), (1, .int x1), (6, .int x6), (7, .int x7)]) C.1 C.2.1 dX12_both_176 rfl hl (by decide) rfl (fun ls hl => ?_)
  refine lv_iload C.1 C.2.1 dX12_both_177 (lv_at hl 4 rfl) ?_
  refine lv_istore_n (lv' := [(3, .int x7), (2, .int x6), (0, .ref (E.2.1 0)), (1, .int x1), (6, .int x6), (7, .int x7)]) C.1 C.2.1 dX12_both_179 rfl hl (by decide) rfl (fun ls hl => ?_)
  refine lv_aload_n C.1 C.2.1 dX12_both_180 rfl (lv_at hl 2 rfl) ?_
  refine ho_getR (a' := 55) C cf12 fM_139 hR aM_0 rfl dX12_both_181 ?_
  refine lv_iconst (v := (1 : Int32)) C.1 C.2.1 dX12_both_184 (by decide) ?_
  obtain ⟨v1, e1, hi1, h⟩ := ldI_ok h
  refine hr_ild C hR aM_55 hi1 e1 dX12_both_185 ?_
  refine lv_istore (lv' := [(4, .int v1), (3, .int x7), (2, .int x6), (0, .ref (E.2.1 0)), (1, .int x1), (6, .int x6), (7, .int x7)]) C.1 C.2.1 dX12_both_186 hl (by decide) rfl (fun ls hl => ?_)
  refine lv_aload_n C.1 C.2.1 dX12_both_188 rfl (lv_at hl 3 rfl) ?_
  refine ho_getR (a' := 55) C cf12 fM_139 hR aM_0 rfl dX12_both_189 ?_
  refine lv_iconst (v := (2 : Int32)) C.1 C.2.1 dX12_both_192 (by decide) ?_
  obtain ⟨v2, e2, hi2, h⟩ := ldI_ok h
  refine hr_ild C hR aM_55 hi2 e2 dX12_both_193 ?_
  refine lv_istore (lv' := [(5, .int v2), (4, .int v1), (3, .int x7), (2, .int x6), (0, .ref (E.2.1 0)), (1, .int x1), (6, .int x6), (7, .int x7)]) C.1 C.2.1 dX12_both_194 hl (by decide) rfl (fun ls hl => ?_)
  exact w_X12_both_196 C K41 K105 hK41 hK105 x1 x6 x7 v1 v2 x6 x7 S h _ _ _ hR (lv_sub hl [4, 5, 3, 2, 1, 0, 6, 7] rfl)
def f_X12_both_105 (K41 : Int32 → Int32 → Int32 → Int32 → Int32 → Int32 → Hp → Option (Int32 × Hp)) : Nat → Int32 → Int32 → Int32 → Int32 → Int32 → Int32 → Int32 → Hp → Option (Int32 × Hp)
  | 0, _, _, _, _, _, _, _, _ => none
  | k + 1, x1, x2, x3, x4, x5, x6, x7, S => ob2 (f_X12_allTricks S) (fun r1 S1 => if r1 < x7 then ob (f_X12_triesAnew S1) (fun S2 => f_X12_both_236 K41 x1 x2 x3 x4 x5 x6 S2) else ob2 (f_X12_canShow x7 S1) (fun r3 S3 => if r3 = 0 then f_X12_both_226 K41 (f_X12_both_105 K41 k) x1 x2 x3 x4 x5 x6 x7 S3 else ob (f_X12_yieldsCome S3) (fun S4 => ob (f_X12_yearEnds x7 S4) (fun S5 => if x2 = (-1 : Int32) then f_X12_both_174 K41 (f_X12_both_105 K41 k) x1 x6 x7 S5 else ldI S5 55 117 (1 : Int32) (fun v6 => if v6 < x4 then f_X12_both_174 K41 (f_X12_both_105 K41 k) x1 x6 x7 S5 else ldI S5 55 117 (1 : Int32) (fun v7 => if v7 = x4 then ldI S5 55 117 (2 : Int32) (fun v8 => if v8 ≤ x5 then f_X12_both_196 K41 (f_X12_both_105 K41 k) x1 x2 x3 x4 x5 x6 x7 S5 else f_X12_both_174 K41 (f_X12_both_105 K41 k) x1 x6 x7 S5) else f_X12_both_196 K41 (f_X12_both_105 K41 k) x1 x2 x3 x4 x5 x6 x7 S5))))))
set_option maxHeartbeats 4000000 in
set_option maxRecDepth 100000 in
theorem w_X12_both_105 {p : Program} {l : Launch} {e : Env} {s : State} {m : MethodId} {args : Array Value} {below : List Frame} {meth : Method} {c : Code} {E : Ev} {S0 : Hp} {r : (Int32 × Hp)} (C : ho_I p s m args meth c RX12 cX12_both 9 (some .int)) (K41 : Int32 → Int32 → Int32 → Int32 → Int32 → Int32 → Hp → Option (Int32 × Hp)) (hK41 : ∀ (y1 : Int32) (y2 : Int32) (y3 : Int32) (y4 : Int32) (y5 : Int32) (y6 : Int32) (S : Hp), K41 y1 y2 y3 y4 y5 y6 S = some r → ho_G p l e s m args below meth c yM E S0 8 9 (some (.int r.1), r.2) 41 [(0, .ref (E.2.1 0)), (1, .int y1), (2, .int y2), (3, .int y3), (4, .int y4), (5, .int y5), (6, .int y6)] [] S) :
    ∀ (k : Nat) (x1 : Int32) (x2 : Int32) (x3 : Int32) (x4 : Int32) (x5 : Int32) (x6 : Int32) (x7 : Int32) (S : Hp), f_X12_both_105 K41 k x1 x2 x3 x4 x5 x6 x7 S = some r → ho_G p l e s m args below meth c yM E S0 8 9 (some (.int r.1), r.2) 105 [(0, .ref (E.2.1 0)), (1, .int x1), (2, .int x2), (3, .int x3), (4, .int x4), (5, .int x5), (6, .int x6), (7, .int x7)] [] S := by
  intro k
  induction k with
  | zero =>
    intro x1 x2 x3 x4 x5 x6 x7 S h
    exact absurd (show (none : Option (Int32 × Hp)) = some r from h) (by simp)
  | succ k ih =>
    intro x1 x2 x3 x4 x5 x6 x7 S h H locs ls hR hl
    rw [f_X12_both_105] at h
    refine lv_iload C.1 C.2.1 dX12_both_105 (lv_at hl 7 rfl) ?_
    refine lv_aload_n C.1 C.2.1 dX12_both_107 rfl (lv_at hl 0 rfl) ?_
    obtain ⟨r1, S1, h1, h⟩ := ob2_ok h
    refine hr_Vi (v := r1) (S' := S1) (As := []) (rest := [.int x7]) C cf12 (c_X12_allTricks l E _ _ h1) yv_X12_allTricks lk_RX12_452 rfl aM_0 rfl rfl hl.1 (Nat.le_of_ble_eq_true rfl) (by decide) (by decide) hR (ho_A hR) dX12_both_108 (fun H locs hR => ?_)
    refine lv_icmp_gt (tgt := 232) C.1 C.2.1 dX12_both_111 (by decide) (fun hc => ?_) (fun hc => ?_)
    · replace h := if_t h hc
      refine lv_aload_n C.1 C.2.1 dX12_both_232 rfl (lv_at hl 0 rfl) ?_
      obtain ⟨S2, h2, h⟩ := ob_ok h
      refine hr_Vv (S' := S2) (As := []) (rest := []) C cf12 (c_X12_triesAnew l E _ _ h2) yv_X12_triesAnew lk_RX12_520 rfl aM_0 rfl rfl hl.1 (Nat.le_of_ble_eq_true rfl) (by decide) (by decide) hR (ho_A hR) dX12_both_233 (fun H locs hR => ?_)
      exact w_X12_both_236 C K41 hK41 x1 x2 x3 x4 x5 x6 S2 h _ _ _ hR (lv_sub hl [0, 1, 2, 3, 4, 5, 6] rfl)
    · replace h := if_f h hc
      refine lv_aload_n C.1 C.2.1 dX12_both_114 rfl (lv_at hl 0 rfl) ?_
      refine lv_iload C.1 C.2.1 dX12_both_115 (lv_at hl 7 rfl) ?_
      obtain ⟨r3, S3, h3, h⟩ := ob2_ok h
      refine hr_Vi (v := r3) (S' := S3) (As := [.int x7]) (rest := []) C cf12 (c_X12_canShow l E x7 _ _ h3) yv_X12_canShow lk_RX12_476 rfl aM_0 rfl rfl hl.1 (Nat.le_of_ble_eq_true rfl) (by decide) (by decide) hR (ho_A hR) dX12_both_117 (fun H locs hR => ?_)
      refine lv_if_ne (tgt := 126) C.1 C.2.1 dX12_both_120 (by decide) (fun hc => ?_) (fun hc => ?_)
      · replace h := if_f h hc
        refine lv_aload_n C.1 C.2.1 dX12_both_126 rfl (lv_at hl 0 rfl) ?_
        obtain ⟨S4, h4, h⟩ := ob_ok h
        refine hr_Vv (S' := S4) (As := []) (rest := []) C cf12 (c_X12_yieldsCome l E _ _ h4) yv_X12_yieldsCome lk_RX12_458 rfl aM_0 rfl rfl hl.1 (Nat.le_of_ble_eq_true rfl) (by decide) (by decide) hR (ho_A hR) dX12_both_127 (fun H locs hR => ?_)
        refine lv_aload_n C.1 C.2.1 dX12_both_130 rfl (lv_at hl 0 rfl) ?_
        refine lv_iload C.1 C.2.1 dX12_both_131 (lv_at hl 7 rfl) ?_
        obtain ⟨S5, h5, h⟩ := ob_ok h
        refine hr_Vv (S' := S5) (As := [.int x7]) (rest := []) C cf12 (c_X12_yearEnds l E x7 _ _ h5) yv_X12_yearEnds lk_RX12_514 rfl aM_0 rfl rfl hl.1 (Nat.le_of_ble_eq_true rfl) (by decide) (by decide) hR (ho_A hR) dX12_both_133 (fun H locs hR => ?_)
        refine lv_iload_n C.1 C.2.1 dX12_both_136 rfl (lv_at hl 2 rfl) ?_
        refine lv_iconst (v := (-1 : Int32)) C.1 C.2.1 dX12_both_137 (by decide) ?_
        refine lv_icmp_eq (tgt := 174) C.1 C.2.1 dX12_both_138 (by decide) (fun hc => ?_) (fun hc => ?_)
        · replace h := if_t h hc
          exact w_X12_both_174 C K41 (f_X12_both_105 K41 k) hK41 ih x1 x6 x7 S5 h _ _ _ hR (lv_sub hl [0, 1, 6, 7] rfl)
        · replace h := if_f h hc
          refine lv_aload_n C.1 C.2.1 dX12_both_141 rfl (lv_at hl 0 rfl) ?_
          refine ho_getR (a' := 55) C cf12 fM_139 hR aM_0 rfl dX12_both_142 ?_
          refine lv_iconst (v := (1 : Int32)) C.1 C.2.1 dX12_both_145 (by decide) ?_
          obtain ⟨v6, e6, hi6, h⟩ := ldI_ok h
          refine hr_ild C hR aM_55 hi6 e6 dX12_both_146 ?_
          refine lv_iload C.1 C.2.1 dX12_both_147 (lv_at hl 4 rfl) ?_
          refine lv_icmp_lt (tgt := 174) C.1 C.2.1 dX12_both_149 (by decide) (fun hc => ?_) (fun hc => ?_)
          · replace h := if_t h hc
            exact w_X12_both_174 C K41 (f_X12_both_105 K41 k) hK41 ih x1 x6 x7 S5 h _ _ _ hR (lv_sub hl [0, 1, 6, 7] rfl)
          · replace h := if_f h hc
            refine lv_aload_n C.1 C.2.1 dX12_both_152 rfl (lv_at hl 0 rfl) ?_
            refine ho_getR (a' := 55) C cf12 fM_139 hR aM_0 rfl dX12_both_153 ?_
            refine lv_iconst (v := (1 : Int32)) C.1 C.2.1 dX12_both_156 (by decide) ?_
            obtain ⟨v7, e7, hi7, h⟩ := ldI_ok h
            refine hr_ild C hR aM_55 hi7 e7 dX12_both_157 ?_
            refine lv_iload C.1 C.2.1 dX12_both_158 (lv_at hl 4 rfl) ?_
            refine lv_icmp_ne (tgt := 196) C.1 C.2.1 dX12_both_160 (by decide) (fun hc => ?_) (fun hc => ?_)
            · replace h := if_f h hc
              exact w_X12_both_196 C K41 (f_X12_both_105 K41 k) hK41 ih x1 x2 x3 x4 x5 x6 x7 S5 h _ _ _ hR (lv_sub hl [0, 1, 2, 3, 4, 5, 6, 7] rfl)
            · replace h := if_t h hc
              refine lv_aload_n C.1 C.2.1 dX12_both_163 rfl (lv_at hl 0 rfl) ?_
              refine ho_getR (a' := 55) C cf12 fM_139 hR aM_0 rfl dX12_both_164 ?_
              refine lv_iconst (v := (2 : Int32)) C.1 C.2.1 dX12_both_167 (by decide) ?_
              obtain ⟨v8, e8, hi8, h⟩ := ldI_ok h
              refine hr_ild C hR aM_55 hi8 e8 dX12_both_168 ?_
              refine lv_iload C.1 C.2.1 dX12_both_169 (lv_at hl 5 rfl) ?_
              refine lv_icmp_le (tgt := 196) C.1 C.2.1 dX12_both_171 (by decide) (fun hc => ?_) (fun hc => ?_)
              · replace h := if_t h hc
                exact w_X12_both_196 C K41 (f_X12_both_105 K41 k) hK41 ih x1 x2 x3 x4 x5 x6 x7 S5 h _ _ _ hR (lv_sub hl [0, 1, 2, 3, 4, 5, 6, 7] rfl)
              · replace h := if_f h hc
                exact w_X12_both_174 C K41 (f_X12_both_105 K41 k) hK41 ih x1 x6 x7 S5 h _ _ _ hR (lv_sub hl [0, 1, 6, 7] rfl)
      · replace h := if_t h hc
        refine lv_goto (tgt := 226) C.1 C.2.1 dX12_both_123 (by decide) ?_
        exact w_X12_both_226 C K41 (f_X12_both_105 K41 k) hK41 ih x1 x2 x3 x4 x5 x6 x7 S3 h _ _ _ hR (lv_sub hl [0, 1, 2, 3, 4, 5, 6, 7] rfl)
def f_X12_both_75 (K41 : Int32 → Int32 → Int32 → Int32 → Int32 → Int32 → Hp → Option (Int32 × Hp)) : Nat → Int32 → Int32 → Int32 → Int32 → Int32 → Int32 → Int32 → Hp → Option (Int32 × Hp)
  | 0, _, _, _, _, _, _, _, _ => none
  | k + 1, x1, x2, x3, x4, x5, x6, x7, S => if (26 : Int32) ≤ x7 then f_X12_both_105 K41 5000 x1 x2 x3 x4 x5 x6 (0 : Int32) S else ldI S 55 117 x7 (fun v1 => stI S 66 26 x7 v1 (fun S2 => le1 (x7 + (1 : Int32)) (fun v3 => f_X12_both_75 K41 k x1 x2 x3 x4 x5 x6 v3 S2)))
set_option maxHeartbeats 4000000 in
set_option maxRecDepth 100000 in
theorem w_X12_both_75 {p : Program} {l : Launch} {e : Env} {s : State} {m : MethodId} {args : Array Value} {below : List Frame} {meth : Method} {c : Code} {E : Ev} {S0 : Hp} {r : (Int32 × Hp)} (C : ho_I p s m args meth c RX12 cX12_both 9 (some .int)) (K41 : Int32 → Int32 → Int32 → Int32 → Int32 → Int32 → Hp → Option (Int32 × Hp)) (hK41 : ∀ (y1 : Int32) (y2 : Int32) (y3 : Int32) (y4 : Int32) (y5 : Int32) (y6 : Int32) (S : Hp), K41 y1 y2 y3 y4 y5 y6 S = some r → ho_G p l e s m args below meth c yM E S0 8 9 (some (.int r.1), r.2) 41 [(0, .ref (E.2.1 0)), (1, .int y1), (2, .int y2), (3, .int y3), (4, .int y4), (5, .int y5), (6, .int y6)] [] S) :
    ∀ (k : Nat) (x1 : Int32) (x2 : Int32) (x3 : Int32) (x4 : Int32) (x5 : Int32) (x6 : Int32) (x7 : Int32) (S : Hp), f_X12_both_75 K41 k x1 x2 x3 x4 x5 x6 x7 S = some r → ho_G p l e s m args below meth c yM E S0 8 9 (some (.int r.1), r.2) 75 [(0, .ref (E.2.1 0)), (1, .int x1), (2, .int x2), (3, .int x3), (4, .int x4), (5, .int x5), (6, .int x6), (7, .int x7)] [] S := by
  intro k
  induction k with
  | zero =>
    intro x1 x2 x3 x4 x5 x6 x7 S h
    exact absurd (show (none : Option (Int32 × Hp)) = some r from h) (by simp)
  | succ k ih =>
    intro x1 x2 x3 x4 x5 x6 x7 S h H locs ls hR hl
    rw [f_X12_both_75] at h
    refine lv_iload C.1 C.2.1 dX12_both_75 (lv_at hl 7 rfl) ?_
    refine lv_bipush (v := (26 : Int32)) C.1 C.2.1 dX12_both_77 (by decide) ?_
    refine lv_icmp_ge (tgt := 102) C.1 C.2.1 dX12_both_79 (by decide) (fun hc => ?_) (fun hc => ?_)
    · replace h := if_t h hc
      refine lv_iconst (v := (0 : Int32)) C.1 C.2.1 dX12_both_102 (by decide) ?_
      refine lv_istore (lv' := [(7, .int (0 : Int32)), (0, .ref (E.2.1 0)), (1, .int x1), (2, .int x2), (3, .int x3), (4, .int x4), (5, .int x5), (6, .int x6)]) C.1 C.2.1 dX12_both_103 hl (by decide) rfl (fun ls hl => ?_)
      exact w_X12_both_105 C K41 hK41 5000 x1 x2 x3 x4 x5 x6 (0 : Int32) S h _ _ _ hR (lv_sub hl [1, 2, 3, 4, 5, 6, 7, 0] rfl)
    · replace h := if_f h hc
      refine lv_aload_n C.1 C.2.1 dX12_both_82 rfl (lv_at hl 0 rfl) ?_
      refine ho_getR (a' := 66) C cf12 fM_157 hR aM_0 rfl dX12_both_83 ?_
      refine lv_iload C.1 C.2.1 dX12_both_86 (lv_at hl 7 rfl) ?_
      refine lv_aload_n C.1 C.2.1 dX12_both_88 rfl (lv_at hl 0 rfl) ?_
      refine ho_getR (a' := 55) C cf12 fM_139 hR aM_0 rfl dX12_both_89 ?_
      refine lv_iload C.1 C.2.1 dX12_both_92 (lv_at hl 7 rfl) ?_
      obtain ⟨v1, e1, hi1, h⟩ := ldI_ok h
      refine hr_ild C hR aM_55 hi1 e1 dX12_both_94 ?_
      obtain ⟨S2, e2, hi2, h⟩ := stI_ok h
      refine hr_ist C hR aM_66 hi2 e2 dX12_both_95 (fun H locs hR => ?_)
      obtain ⟨v3, e3, h⟩ := le1_ok h
      refine lv_iinc (v := v3) (lv' := [(7, .int v3), (0, .ref (E.2.1 0)), (1, .int x1), (2, .int x2), (3, .int x3), (4, .int x4), (5, .int x5), (6, .int x6)]) C.1 C.2.1 dX12_both_96 hl (k := 7) rfl (by rw [e3]; rfl) (by decide) rfl (fun ls hl => ?_)
      refine lv_goto (tgt := 75) C.1 C.2.1 dX12_both_99 (by decide) ?_
      exact ih x1 x2 x3 x4 x5 x6 v3 S2 h _ _ _ hR (lv_sub hl [1, 2, 3, 4, 5, 6, 7, 0] rfl)
def f_X12_both_41 : Nat → Int32 → Int32 → Int32 → Int32 → Int32 → Int32 → Hp → Option (Int32 × Hp)
  | 0, _, _, _, _, _, _, _ => none
  | k + 1, x1, x2, x3, x4, x5, x6, S => ob2 (f_X12_allTricks S) (fun r1 S1 => if r1 < x6 then ob (f_X12_takesBack S1) (fun S2 => if x1 = 0 then some (x2, S2) else if x1 = (1 : Int32) then some (x3, S2) else if x1 = (2 : Int32) then some (x4, S2) else some (x5, S2)) else ob2 (f_X12_canShow x6 S1) (fun r3 S3 => if r3 = 0 then f_X12_both_236 (f_X12_both_41 k) x1 x2 x3 x4 x5 x6 S3 else ob (f_X12_yieldsCome S3) (fun S4 => ob (f_X12_yearEnds x6 S4) (fun S5 => f_X12_both_75 (f_X12_both_41 k) 5000 x1 x2 x3 x4 x5 x6 (0 : Int32) S5))))
set_option maxHeartbeats 4000000 in
set_option maxRecDepth 100000 in
theorem w_X12_both_41 {p : Program} {l : Launch} {e : Env} {s : State} {m : MethodId} {args : Array Value} {below : List Frame} {meth : Method} {c : Code} {E : Ev} {S0 : Hp} {r : (Int32 × Hp)} (C : ho_I p s m args meth c RX12 cX12_both 9 (some .int)) :
    ∀ (k : Nat) (x1 : Int32) (x2 : Int32) (x3 : Int32) (x4 : Int32) (x5 : Int32) (x6 : Int32) (S : Hp), f_X12_both_41 k x1 x2 x3 x4 x5 x6 S = some r → ho_G p l e s m args below meth c yM E S0 8 9 (some (.int r.1), r.2) 41 [(0, .ref (E.2.1 0)), (1, .int x1), (2, .int x2), (3, .int x3), (4, .int x4), (5, .int x5), (6, .int x6)] [] S := by
  intro k
  induction k with
  | zero =>
    intro x1 x2 x3 x4 x5 x6 S h
    exact absurd (show (none : Option (Int32 × Hp)) = some r from h) (by simp)
  | succ k ih =>
    intro x1 x2 x3 x4 x5 x6 S h H locs ls hR hl
    rw [f_X12_both_41] at h
    refine lv_iload C.1 C.2.1 dX12_both_41 (lv_at hl 6 rfl) ?_
    refine lv_aload_n C.1 C.2.1 dX12_both_43 rfl (lv_at hl 0 rfl) ?_
    obtain ⟨r1, S1, h1, h⟩ := ob2_ok h
    refine hr_Vi (v := r1) (S' := S1) (As := []) (rest := [.int x6]) C cf12 (c_X12_allTricks l E _ _ h1) yv_X12_allTricks lk_RX12_452 rfl aM_0 rfl rfl hl.1 (Nat.le_of_ble_eq_true rfl) (by decide) (by decide) hR (ho_A hR) dX12_both_44 (fun H locs hR => ?_)
    refine lv_icmp_gt (tgt := 242) C.1 C.2.1 dX12_both_47 (by decide) (fun hc => ?_) (fun hc => ?_)
    · replace h := if_t h hc
      refine lv_aload_n C.1 C.2.1 dX12_both_242 rfl (lv_at hl 0 rfl) ?_
      obtain ⟨S2, h2, h⟩ := ob_ok h
      refine hr_Vv (S' := S2) (As := []) (rest := []) C cf12 (c_X12_takesBack l E _ _ h2) yv_X12_takesBack lk_RX12_562 rfl aM_0 rfl rfl hl.1 (Nat.le_of_ble_eq_true rfl) (by decide) (by decide) hR (ho_A hR) dX12_both_243 (fun H locs hR => ?_)
      refine lv_iload_n C.1 C.2.1 dX12_both_246 rfl (lv_at hl 1 rfl) ?_
      refine lv_if_ne (tgt := 254) C.1 C.2.1 dX12_both_247 (by decide) (fun hc => ?_) (fun hc => ?_)
      · replace h := if_f h hc
        refine lv_iload_n C.1 C.2.1 dX12_both_254 rfl (lv_at hl 1 rfl) ?_
        refine lv_iconst (v := (1 : Int32)) C.1 C.2.1 dX12_both_255 (by decide) ?_
        refine lv_icmp_ne (tgt := 263) C.1 C.2.1 dX12_both_256 (by decide) (fun hc => ?_) (fun hc => ?_)
        · replace h := if_f h hc
          refine lv_iload_n C.1 C.2.1 dX12_both_263 rfl (lv_at hl 1 rfl) ?_
          refine lv_iconst (v := (2 : Int32)) C.1 C.2.1 dX12_both_264 (by decide) ?_
          refine lv_icmp_ne (tgt := 273) C.1 C.2.1 dX12_both_265 (by decide) (fun hc => ?_) (fun hc => ?_)
          · replace h := if_f h hc
            refine lv_iload C.1 C.2.1 dX12_both_273 (lv_at hl 5 rfl) ?_
            exact ho_iret C hR h dX12_both_275
          · replace h := if_t h hc
            refine lv_iload C.1 C.2.1 dX12_both_268 (lv_at hl 4 rfl) ?_
            refine lv_goto (tgt := 275) C.1 C.2.1 dX12_both_270 (by decide) ?_
            exact ho_iret C hR h dX12_both_275
        · replace h := if_t h hc
          refine lv_iload_n C.1 C.2.1 dX12_both_259 rfl (lv_at hl 3 rfl) ?_
          refine lv_goto (tgt := 275) C.1 C.2.1 dX12_both_260 (by decide) ?_
          exact ho_iret C hR h dX12_both_275
      · replace h := if_t h hc
        refine lv_iload_n C.1 C.2.1 dX12_both_250 rfl (lv_at hl 2 rfl) ?_
        refine lv_goto (tgt := 275) C.1 C.2.1 dX12_both_251 (by decide) ?_
        exact ho_iret C hR h dX12_both_275
    · replace h := if_f h hc
      refine lv_aload_n C.1 C.2.1 dX12_both_50 rfl (lv_at hl 0 rfl) ?_
      refine lv_iload C.1 C.2.1 dX12_both_51 (lv_at hl 6 rfl) ?_
      obtain ⟨r3, S3, h3, h⟩ := ob2_ok h
      refine hr_Vi (v := r3) (S' := S3) (As := [.int x6]) (rest := []) C cf12 (c_X12_canShow l E x6 _ _ h3) yv_X12_canShow lk_RX12_476 rfl aM_0 rfl rfl hl.1 (Nat.le_of_ble_eq_true rfl) (by decide) (by decide) hR (ho_A hR) dX12_both_53 (fun H locs hR => ?_)
      refine lv_if_ne (tgt := 62) C.1 C.2.1 dX12_both_56 (by decide) (fun hc => ?_) (fun hc => ?_)
      · replace h := if_f h hc
        refine lv_aload_n C.1 C.2.1 dX12_both_62 rfl (lv_at hl 0 rfl) ?_
        obtain ⟨S4, h4, h⟩ := ob_ok h
        refine hr_Vv (S' := S4) (As := []) (rest := []) C cf12 (c_X12_yieldsCome l E _ _ h4) yv_X12_yieldsCome lk_RX12_458 rfl aM_0 rfl rfl hl.1 (Nat.le_of_ble_eq_true rfl) (by decide) (by decide) hR (ho_A hR) dX12_both_63 (fun H locs hR => ?_)
        refine lv_aload_n C.1 C.2.1 dX12_both_66 rfl (lv_at hl 0 rfl) ?_
        refine lv_iload C.1 C.2.1 dX12_both_67 (lv_at hl 6 rfl) ?_
        obtain ⟨S5, h5, h⟩ := ob_ok h
        refine hr_Vv (S' := S5) (As := [.int x6]) (rest := []) C cf12 (c_X12_yearEnds l E x6 _ _ h5) yv_X12_yearEnds lk_RX12_514 rfl aM_0 rfl rfl hl.1 (Nat.le_of_ble_eq_true rfl) (by decide) (by decide) hR (ho_A hR) dX12_both_69 (fun H locs hR => ?_)
        refine lv_iconst (v := (0 : Int32)) C.1 C.2.1 dX12_both_72 (by decide) ?_
        refine lv_istore (lv' := [(7, .int (0 : Int32)), (0, .ref (E.2.1 0)), (1, .int x1), (2, .int x2), (3, .int x3), (4, .int x4), (5, .int x5), (6, .int x6)]) C.1 C.2.1 dX12_both_73 hl (by decide) rfl (fun ls hl => ?_)
        exact w_X12_both_75 C (f_X12_both_41 k) ih 5000 x1 x2 x3 x4 x5 x6 (0 : Int32) S5 h _ _ _ hR (lv_sub hl [1, 2, 3, 4, 5, 6, 7, 0] rfl)
      · replace h := if_t h hc
        refine lv_goto (tgt := 236) C.1 C.2.1 dX12_both_59 (by decide) ?_
        exact w_X12_both_236 C (f_X12_both_41 k) ih x1 x2 x3 x4 x5 x6 S3 h _ _ _ hR (lv_sub hl [0, 1, 2, 3, 4, 5, 6] rfl)
def f_X12_both (x1 : Int32) (S : Hp) : Option (Int32 × Hp) :=
  ob2 (f_X12_isAhead (2 : Int32) (2 : Int32) (2 : Int32) S) (fun r1 S1 => if r1 = 0 then some ((-1 : Int32), S1) else ob2 (f_X12_isIn (x1.toInt64) (0 : Int64) (3 : Int64) S1) (fun r2 S2 => if r2 = 0 then some ((-1 : Int32), S2) else ob (f_X12_putsAside S2) (fun S3 => f_X12_both_41 5000 x1 (-1 : Int32) (0 : Int32) (0 : Int32) (0 : Int32) (0 : Int32) S3)))
set_option maxHeartbeats 4000000 in
set_option maxRecDepth 100000 in
theorem c_X12_both (l : Launch) (E : Ev) (x1 : Int32) (S : Hp) (r : (Int32 × Hp)) (h : f_X12_both x1 S = some r) : ho_M l yM E yX12_both cX12_both 9 (some .int) 8 [.ref (E.2.1 0), .int x1] S (some (.int r.1), r.2) := by
  refine ho_in (by decide) (Nat.le_of_ble_eq_true rfl) ?_
  intro p e s m args below meth c C hR ls hl
  have C : ho_I p s m args meth c RX12 cX12_both 9 (some .int) := C
  have hl : lv_has ls 9 [(0, .ref (E.2.1 0)), (1, .int x1)] := hl
  unfold f_X12_both at h
  refine lv_aload_n C.1 C.2.1 dX12_both_0 rfl (lv_at hl 0 rfl) ?_
  refine lv_iconst (v := (2 : Int32)) C.1 C.2.1 dX12_both_1 (by decide) ?_
  refine lv_iconst (v := (2 : Int32)) C.1 C.2.1 dX12_both_2 (by decide) ?_
  refine lv_iconst (v := (2 : Int32)) C.1 C.2.1 dX12_both_3 (by decide) ?_
  obtain ⟨r1, S1, h1, h⟩ := ob2_ok h
  refine hr_Vi (v := r1) (S' := S1) (As := [.int (2 : Int32), .int (2 : Int32), .int (2 : Int32)]) (rest := []) C cf12 (c_X12_isAhead l E (2 : Int32) (2 : Int32) (2 : Int32) _ _ h1) yv_X12_isAhead lk_RX12_551 rfl aM_0 rfl rfl hl.1 (Nat.le_of_ble_eq_true rfl) (by decide) (by decide) hR (ho_A hR) dX12_both_4 (fun H locs hR => ?_)
  refine lv_if_eq (tgt := 22) C.1 C.2.1 dX12_both_7 (by decide) (fun hc => ?_) (fun hc => ?_)
  · replace h := if_t h hc
    refine lv_iconst (v := (-1 : Int32)) C.1 C.2.1 dX12_both_22 (by decide) ?_
    exact ho_iret C hR h dX12_both_23
  · replace h := if_f h hc
    refine lv_iload_n C.1 C.2.1 dX12_both_10 rfl (lv_at hl 1 rfl) ?_
    refine lv_i2l (v := (x1.toInt64)) C.1 C.2.1 dX12_both_11 rfl ?_
    refine lv_lconst (v := (0 : Int64)) C.1 C.2.1 dX12_both_12 (by decide) ?_
    refine lv_ldc2 (v := (3 : Int64)) C.1 C.2.1 C.2.2.2.2.1 (C.2.2.2.2.2.1 _ kc_RX12_554) dX12_both_13 ?_
    obtain ⟨r2, S2, h2, h⟩ := ob2_ok h
    refine hr_Si (v := r2) (S' := S2) (As := [.long (x1.toInt64), .long (0 : Int64), .long (3 : Int64)]) (rest := []) C (c_X12_isIn l E (x1.toInt64) (0 : Int64) (3 : Int64) _ _ h2) ys_X12_isIn lk_RX12_304 rfl rfl hl.1 (Nat.le_of_ble_eq_true rfl) (by decide) (by decide) hR (ho_A hR) dX12_both_16 (fun H locs hR => ?_)
    refine lv_if_ne (tgt := 24) C.1 C.2.1 dX12_both_19 (by decide) (fun hc => ?_) (fun hc => ?_)
    · replace h := if_f h hc
      refine lv_iconst (v := (-1 : Int32)) C.1 C.2.1 dX12_both_24 (by decide) ?_
      refine lv_istore_n (lv' := [(2, .int (-1 : Int32)), (0, .ref (E.2.1 0)), (1, .int x1)]) C.1 C.2.1 dX12_both_25 rfl hl (by decide) rfl (fun ls hl => ?_)
      refine lv_iconst (v := (0 : Int32)) C.1 C.2.1 dX12_both_26 (by decide) ?_
      refine lv_istore_n (lv' := [(3, .int (0 : Int32)), (2, .int (-1 : Int32)), (0, .ref (E.2.1 0)), (1, .int x1)]) C.1 C.2.1 dX12_both_27 rfl hl (by decide) rfl (fun ls hl => ?_)
      refine lv_iconst (v := (0 : Int32)) C.1 C.2.1 dX12_both_28 (by decide) ?_
      refine lv_istore (lv' := [(4, .int (0 : Int32)), (3, .int (0 : Int32)), (2, .int (-1 : Int32)), (0, .ref (E.2.1 0)), (1, .int x1)]) C.1 C.2.1 dX12_both_29 hl (by decide) rfl (fun ls hl => ?_)
      refine lv_iconst (v := (0 : Int32)) C.1 C.2.1 dX12_both_31 (by decide) ?_
      refine lv_istore (lv' := [(5, .int (0 : Int32)), (4, .int (0 : Int32)), (3, .int (0 : Int32)), (2, .int (-1 : Int32)), (0, .ref (E.2.1 0)), (1, .int x1)]) C.1 C.2.1 dX12_both_32 hl (by decide) rfl (fun ls hl => ?_)
      refine lv_aload_n C.1 C.2.1 dX12_both_34 rfl (lv_at hl 4 rfl) ?_
      obtain ⟨S3, h3, h⟩ := ob_ok h
      refine hr_Vv (S' := S3) (As := []) (rest := []) C cf12 (c_X12_putsAside l E _ _ h3) yv_X12_putsAside lk_RX12_556 rfl aM_0 rfl rfl hl.1 (Nat.le_of_ble_eq_true rfl) (by decide) (by decide) hR (ho_A hR) dX12_both_35 (fun H locs hR => ?_)
      refine lv_iconst (v := (0 : Int32)) C.1 C.2.1 dX12_both_38 (by decide) ?_
      refine lv_istore (lv' := [(6, .int (0 : Int32)), (5, .int (0 : Int32)), (4, .int (0 : Int32)), (3, .int (0 : Int32)), (2, .int (-1 : Int32)), (0, .ref (E.2.1 0)), (1, .int x1)]) C.1 C.2.1 dX12_both_39 hl (by decide) rfl (fun ls hl => ?_)
      exact w_X12_both_41 C 5000 x1 (-1 : Int32) (0 : Int32) (0 : Int32) (0 : Int32) (0 : Int32) S3 h _ _ _ hR (lv_sub hl [5, 6, 4, 3, 2, 1, 0] rfl)
    · replace h := if_t h hc
      refine lv_iconst (v := (-1 : Int32)) C.1 C.2.1 dX12_both_22 (by decide) ?_
      exact ho_iret C hR h dX12_both_23
theorem dX12_drop_0 : decode cX12_drop 0 = .ok (.aload_n 0, 1) := by decide +kernel
theorem dX12_drop_1 : decode cX12_drop 1 = .ok (.iload_n 1, 1) := by decide +kernel
theorem dX12_drop_2 : decode cX12_drop 2 = .ok (.iconst 0, 1) := by decide +kernel
theorem dX12_drop_3 : decode cX12_drop 3 = .ok (.bipush 60, 2) := by decide +kernel
theorem dX12_drop_5 : decode cX12_drop 5 = .ok (.invokevirtual 551, 3) := by decide +kernel
theorem dX12_drop_8 : decode cX12_drop 8 = .ok (.ifCond .ne 5, 3) := by decide +kernel
theorem dX12_drop_11 : decode cX12_drop 11 = .ok (.iconst (-1), 1) := by decide +kernel
theorem dX12_drop_12 : decode cX12_drop 12 = .ok (.ireturn, 1) := by decide +kernel
theorem dX12_drop_13 : decode cX12_drop 13 = .ok (.iconst 0, 1) := by decide +kernel
theorem dX12_drop_14 : decode cX12_drop 14 = .ok (.istore_n 2, 1) := by decide +kernel
theorem dX12_drop_15 : decode cX12_drop 15 = .ok (.aload_n 0, 1) := by decide +kernel
theorem dX12_drop_16 : decode cX12_drop 16 = .ok (.invokevirtual 556, 3) := by decide +kernel
theorem dX12_drop_19 : decode cX12_drop 19 = .ok (.bipush 100, 2) := by decide +kernel
theorem dX12_drop_21 : decode cX12_drop 21 = .ok (.aload_n 0, 1) := by decide +kernel
theorem dX12_drop_22 : decode cX12_drop 22 = .ok (.getfield 139, 3) := by decide +kernel
theorem dX12_drop_25 : decode cX12_drop 25 = .ok (.iconst 2, 1) := by decide +kernel
theorem dX12_drop_26 : decode cX12_drop 26 = .ok (.iaload, 1) := by decide +kernel
theorem dX12_drop_27 : decode cX12_drop 27 = .ok (.imul, 1) := by decide +kernel
theorem dX12_drop_28 : decode cX12_drop 28 = .ok (.aload_n 0, 1) := by decide +kernel
theorem dX12_drop_29 : decode cX12_drop 29 = .ok (.getfield 139, 3) := by decide +kernel
theorem dX12_drop_32 : decode cX12_drop 32 = .ok (.iconst 1, 1) := by decide +kernel
theorem dX12_drop_33 : decode cX12_drop 33 = .ok (.iaload, 1) := by decide +kernel
theorem dX12_drop_34 : decode cX12_drop 34 = .ok (.isub, 1) := by decide +kernel
theorem dX12_drop_35 : decode cX12_drop 35 = .ok (.istore_n 3, 1) := by decide +kernel
theorem dX12_drop_36 : decode cX12_drop 36 = .ok (.iconst 1, 1) := by decide +kernel
theorem dX12_drop_37 : decode cX12_drop 37 = .ok (.istore 4, 2) := by decide +kernel
theorem dX12_drop_39 : decode cX12_drop 39 = .ok (.iload 4, 2) := by decide +kernel
theorem dX12_drop_41 : decode cX12_drop 41 = .ok (.iload_n 1, 1) := by decide +kernel
theorem dX12_drop_42 : decode cX12_drop 42 = .ok (.if_icmp .gt 46, 3) := by decide +kernel
theorem dX12_drop_45 : decode cX12_drop 45 = .ok (.aload_n 0, 1) := by decide +kernel
theorem dX12_drop_46 : decode cX12_drop 46 = .ok (.invokevirtual 517, 3) := by decide +kernel
theorem dX12_drop_49 : decode cX12_drop 49 = .ok (.bipush 100, 2) := by decide +kernel
theorem dX12_drop_51 : decode cX12_drop 51 = .ok (.aload_n 0, 1) := by decide +kernel
theorem dX12_drop_52 : decode cX12_drop 52 = .ok (.getfield 139, 3) := by decide +kernel
theorem dX12_drop_55 : decode cX12_drop 55 = .ok (.iconst 2, 1) := by decide +kernel
theorem dX12_drop_56 : decode cX12_drop 56 = .ok (.iaload, 1) := by decide +kernel
theorem dX12_drop_57 : decode cX12_drop 57 = .ok (.imul, 1) := by decide +kernel
theorem dX12_drop_58 : decode cX12_drop 58 = .ok (.aload_n 0, 1) := by decide +kernel
theorem dX12_drop_59 : decode cX12_drop 59 = .ok (.getfield 139, 3) := by decide +kernel
theorem dX12_drop_62 : decode cX12_drop 62 = .ok (.iconst 1, 1) := by decide +kernel
theorem dX12_drop_63 : decode cX12_drop 63 = .ok (.iaload, 1) := by decide +kernel
theorem dX12_drop_64 : decode cX12_drop 64 = .ok (.isub, 1) := by decide +kernel
theorem dX12_drop_65 : decode cX12_drop 65 = .ok (.istore 5, 2) := by decide +kernel
theorem dX12_drop_67 : decode cX12_drop 67 = .ok (.iload 5, 2) := by decide +kernel
theorem dX12_drop_69 : decode cX12_drop 69 = .ok (.iload_n 3, 1) := by decide +kernel
theorem dX12_drop_70 : decode cX12_drop 70 = .ok (.if_icmp .gt 6, 3) := by decide +kernel
theorem dX12_drop_73 : decode cX12_drop 73 = .ok (.goto 9, 3) := by decide +kernel
theorem dX12_drop_76 : decode cX12_drop 76 = .ok (.iload 4, 2) := by decide +kernel
theorem dX12_drop_78 : decode cX12_drop 78 = .ok (.istore_n 2, 1) := by decide +kernel
theorem dX12_drop_79 : decode cX12_drop 79 = .ok (.iload 5, 2) := by decide +kernel
theorem dX12_drop_81 : decode cX12_drop 81 = .ok (.istore_n 3, 1) := by decide +kernel
theorem dX12_drop_82 : decode cX12_drop 82 = .ok (.iinc 4 1, 3) := by decide +kernel
theorem dX12_drop_85 : decode cX12_drop 85 = .ok (.goto (-46), 3) := by decide +kernel
theorem dX12_drop_88 : decode cX12_drop 88 = .ok (.aload_n 0, 1) := by decide +kernel
theorem dX12_drop_89 : decode cX12_drop 89 = .ok (.invokevirtual 562, 3) := by decide +kernel
theorem dX12_drop_92 : decode cX12_drop 92 = .ok (.iload_n 2, 1) := by decide +kernel
theorem dX12_drop_93 : decode cX12_drop 93 = .ok (.ireturn, 1) := by decide +kernel
def f_X12_drop_82 (K39 : Int32 → Int32 → Int32 → Int32 → Hp → Option (Int32 × Hp)) (x1 : Int32) (x2 : Int32) (x3 : Int32) (x4 : Int32) (S : Hp) : Option (Int32 × Hp) :=
  le1 (x4 + (1 : Int32)) (fun v1 => K39 x1 x2 x3 v1 S)
set_option maxHeartbeats 4000000 in
set_option maxRecDepth 100000 in
theorem w_X12_drop_82 {p : Program} {l : Launch} {e : Env} {s : State} {m : MethodId} {args : Array Value} {below : List Frame} {meth : Method} {c : Code} {E : Ev} {S0 : Hp} {r : (Int32 × Hp)} (C : ho_I p s m args meth c RX12 cX12_drop 6 (some .int)) (K39 : Int32 → Int32 → Int32 → Int32 → Hp → Option (Int32 × Hp)) (hK39 : ∀ (y1 : Int32) (y2 : Int32) (y3 : Int32) (y4 : Int32) (S : Hp), K39 y1 y2 y3 y4 S = some r → ho_G p l e s m args below meth c yM E S0 9 6 (some (.int r.1), r.2) 39 [(0, .ref (E.2.1 0)), (1, .int y1), (2, .int y2), (3, .int y3), (4, .int y4)] [] S) :
    ∀ (x1 : Int32) (x2 : Int32) (x3 : Int32) (x4 : Int32) (S : Hp), f_X12_drop_82 K39 x1 x2 x3 x4 S = some r → ho_G p l e s m args below meth c yM E S0 9 6 (some (.int r.1), r.2) 82 [(0, .ref (E.2.1 0)), (1, .int x1), (2, .int x2), (3, .int x3), (4, .int x4)] [] S := by
  intro x1 x2 x3 x4 S h H locs ls hR hl
  unfold f_X12_drop_82 at h
  obtain ⟨v1, e1, h⟩ := le1_ok h
  refine lv_iinc (v := v1) (lv' := [(4, .int v1), (0, .ref (E.2.1 0)), (1, .int x1), (2, .int x2), (3, .int x3)]) C.1 C.2.1 dX12_drop_82 hl (k := 4) rfl (by rw [e1]; rfl) (by decide) rfl (fun ls hl => ?_)
  refine lv_goto (tgt := 39) C.1 C.2.1 dX12_drop_85 (by decide) ?_
  exact hK39 x1 x2 x3 v1 S h _ _ _ hR (lv_sub hl [1, 2, 3, 4, 0] rfl)
def f_X12_drop_39 : Nat → Int32 → Int32 → Int32 → Int32 → Hp → Option (Int32 × Hp)
  | 0, _, _, _, _, _ => none
  | k + 1, x1, x2, x3, x4, S => if x1 < x4 then ob (f_X12_takesBack S) (fun S1 => some (x2, S1)) else ob (f_X12_yearGoes S) (fun S2 => ldI S2 55 117 (2 : Int32) (fun v3 => ldI S2 55 117 (1 : Int32) (fun v4 => le1 (((100 : Int32) * v3) - v4) (fun v5 => if x3 < v5 then f_X12_drop_82 (f_X12_drop_39 k) x1 x4 v5 x4 S2 else f_X12_drop_82 (f_X12_drop_39 k) x1 x2 x3 x4 S2))))
set_option maxHeartbeats 4000000 in
set_option maxRecDepth 100000 in
theorem w_X12_drop_39 {p : Program} {l : Launch} {e : Env} {s : State} {m : MethodId} {args : Array Value} {below : List Frame} {meth : Method} {c : Code} {E : Ev} {S0 : Hp} {r : (Int32 × Hp)} (C : ho_I p s m args meth c RX12 cX12_drop 6 (some .int)) :
    ∀ (k : Nat) (x1 : Int32) (x2 : Int32) (x3 : Int32) (x4 : Int32) (S : Hp), f_X12_drop_39 k x1 x2 x3 x4 S = some r → ho_G p l e s m args below meth c yM E S0 9 6 (some (.int r.1), r.2) 39 [(0, .ref (E.2.1 0)), (1, .int x1), (2, .int x2), (3, .int x3), (4, .int x4)] [] S := by
  intro k
  induction k with
  | zero =>
    intro x1 x2 x3 x4 S h
    exact absurd (show (none : Option (Int32 × Hp)) = some r from h) (by simp)
  | succ k ih =>
    intro x1 x2 x3 x4 S h H locs ls hR hl
    rw [f_X12_drop_39] at h
    refine lv_iload C.1 C.2.1 dX12_drop_39 (lv_at hl 4 rfl) ?_
    refine lv_iload_n C.1 C.2.1 dX12_drop_41 rfl (lv_at hl 1 rfl) ?_
    refine lv_icmp_gt (tgt := 88) C.1 C.2.1 dX12_drop_42 (by decide) (fun hc => ?_) (fun hc => ?_)
    · replace h := if_t h hc
      refine lv_aload_n C.1 C.2.1 dX12_drop_88 rfl (lv_at hl 0 rfl) ?_
      obtain ⟨S1, h1, h⟩ := ob_ok h
      refine hr_Vv (S' := S1) (As := []) (rest := []) C cf12 (c_X12_takesBack l E _ _ h1) yv_X12_takesBack lk_RX12_562 rfl aM_0 rfl rfl hl.1 (Nat.le_of_ble_eq_true rfl) (by decide) (by decide) hR (ho_A hR) dX12_drop_89 (fun H locs hR => ?_)
      refine lv_iload_n C.1 C.2.1 dX12_drop_92 rfl (lv_at hl 2 rfl) ?_
      exact ho_iret C hR h dX12_drop_93
    · replace h := if_f h hc
      refine lv_aload_n C.1 C.2.1 dX12_drop_45 rfl (lv_at hl 0 rfl) ?_
      obtain ⟨S2, h2, h⟩ := ob_ok h
      refine hr_Vv (S' := S2) (As := []) (rest := []) C cf12 (c_X12_yearGoes l E _ _ h2) yv_X12_yearGoes lk_RX12_517 rfl aM_0 rfl rfl hl.1 (Nat.le_of_ble_eq_true rfl) (by decide) (by decide) hR (ho_A hR) dX12_drop_46 (fun H locs hR => ?_)
      refine lv_bipush (v := (100 : Int32)) C.1 C.2.1 dX12_drop_49 (by decide) ?_
      refine lv_aload_n C.1 C.2.1 dX12_drop_51 rfl (lv_at hl 0 rfl) ?_
      refine ho_getR (a' := 55) C cf12 fM_139 hR aM_0 rfl dX12_drop_52 ?_
      refine lv_iconst (v := (2 : Int32)) C.1 C.2.1 dX12_drop_55 (by decide) ?_
      obtain ⟨v3, e3, hi3, h⟩ := ldI_ok h
      refine hr_ild C hR aM_55 hi3 e3 dX12_drop_56 ?_
      refine lv_imul C.1 C.2.1 dX12_drop_57 ?_
      refine lv_aload_n C.1 C.2.1 dX12_drop_58 rfl (lv_at hl 0 rfl) ?_
      refine ho_getR (a' := 55) C cf12 fM_139 hR aM_0 rfl dX12_drop_59 ?_
      refine lv_iconst (v := (1 : Int32)) C.1 C.2.1 dX12_drop_62 (by decide) ?_
      obtain ⟨v4, e4, hi4, h⟩ := ldI_ok h
      refine hr_ild C hR aM_55 hi4 e4 dX12_drop_63 ?_
      refine lv_isub C.1 C.2.1 dX12_drop_64 ?_
      refine lv_topi (fun v5 e5 => ?_)
      replace h := le1_at e5 h
      refine lv_istore (lv' := [(5, .int v5), (0, .ref (E.2.1 0)), (1, .int x1), (2, .int x2), (3, .int x3), (4, .int x4)]) C.1 C.2.1 dX12_drop_65 hl (by decide) rfl (fun ls hl => ?_)
      refine lv_iload C.1 C.2.1 dX12_drop_67 (lv_at hl 0 rfl) ?_
      refine lv_iload_n C.1 C.2.1 dX12_drop_69 rfl (lv_at hl 4 rfl) ?_
      refine lv_icmp_gt (tgt := 76) C.1 C.2.1 dX12_drop_70 (by decide) (fun hc => ?_) (fun hc => ?_)
      · replace h := if_t h hc
        refine lv_iload C.1 C.2.1 dX12_drop_76 (lv_at hl 5 rfl) ?_
        refine lv_istore_n (lv' := [(2, .int x4), (5, .int v5), (0, .ref (E.2.1 0)), (1, .int x1), (3, .int x3), (4, .int x4)]) C.1 C.2.1 dX12_drop_78 rfl hl (by decide) rfl (fun ls hl => ?_)
        refine lv_iload C.1 C.2.1 dX12_drop_79 (lv_at hl 1 rfl) ?_
        refine lv_istore_n (lv' := [(3, .int v5), (2, .int x4), (5, .int v5), (0, .ref (E.2.1 0)), (1, .int x1), (4, .int x4)]) C.1 C.2.1 dX12_drop_81 rfl hl (by decide) rfl (fun ls hl => ?_)
        exact w_X12_drop_82 C (f_X12_drop_39 k) ih x1 x4 v5 x4 S2 h _ _ _ hR (lv_sub hl [3, 4, 1, 0, 5] rfl)
      · replace h := if_f h hc
        refine lv_goto (tgt := 82) C.1 C.2.1 dX12_drop_73 (by decide) ?_
        exact w_X12_drop_82 C (f_X12_drop_39 k) ih x1 x2 x3 x4 S2 h _ _ _ hR (lv_sub hl [1, 2, 3, 4, 5] rfl)
def f_X12_drop (x1 : Int32) (S : Hp) : Option (Int32 × Hp) :=
  ob2 (f_X12_isAhead x1 (0 : Int32) (60 : Int32) S) (fun r1 S1 => if r1 = 0 then some ((-1 : Int32), S1) else ob (f_X12_putsAside S1) (fun S2 => ldI S2 55 117 (2 : Int32) (fun v3 => ldI S2 55 117 (1 : Int32) (fun v4 => le1 (((100 : Int32) * v3) - v4) (fun v5 => f_X12_drop_39 5000 x1 (0 : Int32) v5 (1 : Int32) S2)))))
set_option maxHeartbeats 4000000 in
set_option maxRecDepth 100000 in
theorem c_X12_drop (l : Launch) (E : Ev) (x1 : Int32) (S : Hp) (r : (Int32 × Hp)) (h : f_X12_drop x1 S = some r) : ho_M l yM E yX12_drop cX12_drop 6 (some .int) 9 [.ref (E.2.1 0), .int x1] S (some (.int r.1), r.2) := by
  refine ho_in (by decide) (Nat.le_of_ble_eq_true rfl) ?_
  intro p e s m args below meth c C hR ls hl
  have C : ho_I p s m args meth c RX12 cX12_drop 6 (some .int) := C
  have hl : lv_has ls 6 [(0, .ref (E.2.1 0)), (1, .int x1)] := hl
  unfold f_X12_drop at h
  refine lv_aload_n C.1 C.2.1 dX12_drop_0 rfl (lv_at hl 0 rfl) ?_
  refine lv_iload_n C.1 C.2.1 dX12_drop_1 rfl (lv_at hl 1 rfl) ?_
  refine lv_iconst (v := (0 : Int32)) C.1 C.2.1 dX12_drop_2 (by decide) ?_
  refine lv_bipush (v := (60 : Int32)) C.1 C.2.1 dX12_drop_3 (by decide) ?_
  obtain ⟨r1, S1, h1, h⟩ := ob2_ok h
  refine hr_Vi (v := r1) (S' := S1) (As := [.int x1, .int (0 : Int32), .int (60 : Int32)]) (rest := []) C cf12 (c_X12_isAhead l E x1 (0 : Int32) (60 : Int32) _ _ h1) yv_X12_isAhead lk_RX12_551 rfl aM_0 rfl rfl hl.1 (Nat.le_of_ble_eq_true rfl) (by decide) (by decide) hR (ho_A hR) dX12_drop_5 (fun H locs hR => ?_)
  refine lv_if_ne (tgt := 13) C.1 C.2.1 dX12_drop_8 (by decide) (fun hc => ?_) (fun hc => ?_)
  · replace h := if_f h hc
    refine lv_iconst (v := (0 : Int32)) C.1 C.2.1 dX12_drop_13 (by decide) ?_
    refine lv_istore_n (lv' := [(2, .int (0 : Int32)), (0, .ref (E.2.1 0)), (1, .int x1)]) C.1 C.2.1 dX12_drop_14 rfl hl (by decide) rfl (fun ls hl => ?_)
    refine lv_aload_n C.1 C.2.1 dX12_drop_15 rfl (lv_at hl 1 rfl) ?_
    obtain ⟨S2, h2, h⟩ := ob_ok h
    refine hr_Vv (S' := S2) (As := []) (rest := []) C cf12 (c_X12_putsAside l E _ _ h2) yv_X12_putsAside lk_RX12_556 rfl aM_0 rfl rfl hl.1 (Nat.le_of_ble_eq_true rfl) (by decide) (by decide) hR (ho_A hR) dX12_drop_16 (fun H locs hR => ?_)
    refine lv_bipush (v := (100 : Int32)) C.1 C.2.1 dX12_drop_19 (by decide) ?_
    refine lv_aload_n C.1 C.2.1 dX12_drop_21 rfl (lv_at hl 1 rfl) ?_
    refine ho_getR (a' := 55) C cf12 fM_139 hR aM_0 rfl dX12_drop_22 ?_
    refine lv_iconst (v := (2 : Int32)) C.1 C.2.1 dX12_drop_25 (by decide) ?_
    obtain ⟨v3, e3, hi3, h⟩ := ldI_ok h
    refine hr_ild C hR aM_55 hi3 e3 dX12_drop_26 ?_
    refine lv_imul C.1 C.2.1 dX12_drop_27 ?_
    refine lv_aload_n C.1 C.2.1 dX12_drop_28 rfl (lv_at hl 1 rfl) ?_
    refine ho_getR (a' := 55) C cf12 fM_139 hR aM_0 rfl dX12_drop_29 ?_
    refine lv_iconst (v := (1 : Int32)) C.1 C.2.1 dX12_drop_32 (by decide) ?_
    obtain ⟨v4, e4, hi4, h⟩ := ldI_ok h
    refine hr_ild C hR aM_55 hi4 e4 dX12_drop_33 ?_
    refine lv_isub C.1 C.2.1 dX12_drop_34 ?_
    refine lv_topi (fun v5 e5 => ?_)
    replace h := le1_at e5 h
    refine lv_istore_n (lv' := [(3, .int v5), (2, .int (0 : Int32)), (0, .ref (E.2.1 0)), (1, .int x1)]) C.1 C.2.1 dX12_drop_35 rfl hl (by decide) rfl (fun ls hl => ?_)
    refine lv_iconst (v := (1 : Int32)) C.1 C.2.1 dX12_drop_36 (by decide) ?_
    refine lv_istore (lv' := [(4, .int (1 : Int32)), (3, .int v5), (2, .int (0 : Int32)), (0, .ref (E.2.1 0)), (1, .int x1)]) C.1 C.2.1 dX12_drop_37 hl (by decide) rfl (fun ls hl => ?_)
    exact w_X12_drop_39 C 5000 x1 (0 : Int32) v5 (1 : Int32) S2 h _ _ _ hR (lv_sub hl [3, 4, 2, 1, 0] rfl)
  · replace h := if_t h hc
    refine lv_iconst (v := (-1 : Int32)) C.1 C.2.1 dX12_drop_11 (by decide) ?_
    exact ho_iret C hR h dX12_drop_12
theorem dX12_refuses_0 : decode cX12_refuses 0 = .ok (.aload_n 0, 1) := by decide +kernel
theorem dX12_refuses_1 : decode cX12_refuses 1 = .ok (.getfield 17, 3) := by decide +kernel
theorem dX12_refuses_4 : decode cX12_refuses 4 = .ok (.iload_n 1, 1) := by decide +kernel
theorem dX12_refuses_5 : decode cX12_refuses 5 = .ok (.dup2, 1) := by decide +kernel
theorem dX12_refuses_6 : decode cX12_refuses 6 = .ok (.iaload, 1) := by decide +kernel
theorem dX12_refuses_7 : decode cX12_refuses 7 = .ok (.iconst 1, 1) := by decide +kernel
theorem dX12_refuses_8 : decode cX12_refuses 8 = .ok (.iadd, 1) := by decide +kernel
theorem dX12_refuses_9 : decode cX12_refuses 9 = .ok (.iastore, 1) := by decide +kernel
theorem dX12_refuses_10 : decode cX12_refuses 10 = .ok (.iconst (-1), 1) := by decide +kernel
theorem dX12_refuses_11 : decode cX12_refuses 11 = .ok (.ireturn, 1) := by decide +kernel
def f_X12_refuses (x1 : Int32) (S : Hp) : Option (Int32 × Hp) :=
  ldI S 10 6 x1 (fun v1 => stI S 10 6 x1 (v1 + (1 : Int32)) (fun S2 => some ((-1 : Int32), S2)))
set_option maxHeartbeats 4000000 in
set_option maxRecDepth 100000 in
theorem c_X12_refuses (l : Launch) (E : Ev) (x1 : Int32) (S : Hp) (r : (Int32 × Hp)) (h : f_X12_refuses x1 S = some r) : ho_M l yM E yX12_refuses cX12_refuses 2 (some .int) 0 [.ref (E.2.1 0), .int x1] S (some (.int r.1), r.2) := by
  refine ho_in (by decide) (Nat.le_of_ble_eq_true rfl) ?_
  intro p e s m args below meth c C hR ls hl
  have C : ho_I p s m args meth c RX12 cX12_refuses 2 (some .int) := C
  have hl : lv_has ls 2 [(0, .ref (E.2.1 0)), (1, .int x1)] := hl
  unfold f_X12_refuses at h
  refine lv_aload_n C.1 C.2.1 dX12_refuses_0 rfl (lv_at hl 0 rfl) ?_
  refine ho_getR (a' := 10) C cf12 fM_17 hR aM_0 rfl dX12_refuses_1 ?_
  refine lv_iload_n C.1 C.2.1 dX12_refuses_4 rfl (lv_at hl 1 rfl) ?_
  refine lv_dup2_11 C.1 C.2.1 dX12_refuses_5 rfl rfl ?_
  obtain ⟨v1, e1, hi1, h⟩ := ldI_ok h
  refine hr_ild C hR aM_10 hi1 e1 dX12_refuses_6 ?_
  refine lv_iconst (v := (1 : Int32)) C.1 C.2.1 dX12_refuses_7 (by decide) ?_
  refine lv_iadd C.1 C.2.1 dX12_refuses_8 ?_
  obtain ⟨S2, e2, hi2, h⟩ := stI_ok h
  refine hr_ist C hR aM_10 hi2 e2 dX12_refuses_9 (fun H locs hR => ?_)
  refine lv_iconst (v := (-1 : Int32)) C.1 C.2.1 dX12_refuses_10 (by decide) ?_
  exact ho_iret C hR h dX12_refuses_11
theorem dX12_count_0 : decode cX12_count 0 = .ok (.aload_n 0, 1) := by decide +kernel
theorem dX12_count_1 : decode cX12_count 1 = .ok (.getfield 261, 3) := by decide +kernel
theorem dX12_count_4 : decode cX12_count 4 = .ok (.istore_n 1, 1) := by decide +kernel
theorem dX12_count_5 : decode cX12_count 5 = .ok (.aload_n 0, 1) := by decide +kernel
theorem dX12_count_6 : decode cX12_count 6 = .ok (.iconst 0, 1) := by decide +kernel
theorem dX12_count_7 : decode cX12_count 7 = .ok (.putfield 261, 3) := by decide +kernel
theorem dX12_count_10 : decode cX12_count 10 = .ok (.iload_n 1, 1) := by decide +kernel
theorem dX12_count_11 : decode cX12_count 11 = .ok (.ifCond .le 21, 3) := by decide +kernel
theorem dX12_count_14 : decode cX12_count 14 = .ok (.iload_n 1, 1) := by decide +kernel
theorem dX12_count_15 : decode cX12_count 15 = .ok (.iconst 3, 1) := by decide +kernel
theorem dX12_count_16 : decode cX12_count 16 = .ok (.irem, 1) := by decide +kernel
theorem dX12_count_17 : decode cX12_count 17 = .ok (.ifCond .ne 15, 3) := by decide +kernel
theorem dX12_count_20 : decode cX12_count 20 = .ok (.iload_n 1, 1) := by decide +kernel
theorem dX12_count_21 : decode cX12_count 21 = .ok (.iconst 3, 1) := by decide +kernel
theorem dX12_count_22 : decode cX12_count 22 = .ok (.idiv, 1) := by decide +kernel
theorem dX12_count_23 : decode cX12_count 23 = .ok (.bipush 16, 2) := by decide +kernel
theorem dX12_count_25 : decode cX12_count 25 = .ok (.if_icmp .gt 7, 3) := by decide +kernel
theorem dX12_count_28 : decode cX12_count 28 = .ok (.iconst 1, 1) := by decide +kernel
theorem dX12_count_29 : decode cX12_count 29 = .ok (.goto 4, 3) := by decide +kernel
theorem dX12_count_32 : decode cX12_count 32 = .ok (.iconst 0, 1) := by decide +kernel
theorem dX12_count_33 : decode cX12_count 33 = .ok (.istore_n 2, 1) := by decide +kernel
theorem dX12_count_34 : decode cX12_count 34 = .ok (.iconst 0, 1) := by decide +kernel
theorem dX12_count_35 : decode cX12_count 35 = .ok (.istore_n 3, 1) := by decide +kernel
theorem dX12_count_36 : decode cX12_count 36 = .ok (.iload_n 3, 1) := by decide +kernel
theorem dX12_count_37 : decode cX12_count 37 = .ok (.iload_n 1, 1) := by decide +kernel
theorem dX12_count_38 : decode cX12_count 38 = .ok (.if_icmp .ge 24, 3) := by decide +kernel
theorem dX12_count_41 : decode cX12_count 41 = .ok (.iload_n 2, 1) := by decide +kernel
theorem dX12_count_42 : decode cX12_count 42 = .ok (.ifCond .eq 20, 3) := by decide +kernel
theorem dX12_count_45 : decode cX12_count 45 = .ok (.aload_n 0, 1) := by decide +kernel
theorem dX12_count_46 : decode cX12_count 46 = .ok (.aload_n 0, 1) := by decide +kernel
theorem dX12_count_47 : decode cX12_count 47 = .ok (.getfield 7, 3) := by decide +kernel
theorem dX12_count_50 : decode cX12_count 50 = .ok (.iload_n 3, 1) := by decide +kernel
theorem dX12_count_51 : decode cX12_count 51 = .ok (.iaload, 1) := by decide +kernel
theorem dX12_count_52 : decode cX12_count 52 = .ok (.invokevirtual 530, 3) := by decide +kernel
theorem dX12_count_55 : decode cX12_count 55 = .ok (.istore_n 2, 1) := by decide +kernel
theorem dX12_count_56 : decode cX12_count 56 = .ok (.iinc 3 3, 3) := by decide +kernel
theorem dX12_count_59 : decode cX12_count 59 = .ok (.goto (-23), 3) := by decide +kernel
theorem dX12_count_62 : decode cX12_count 62 = .ok (.iload_n 2, 1) := by decide +kernel
theorem dX12_count_63 : decode cX12_count 63 = .ok (.ifCond .ne 9, 3) := by decide +kernel
theorem dX12_count_66 : decode cX12_count 66 = .ok (.aload_n 0, 1) := by decide +kernel
theorem dX12_count_67 : decode cX12_count 67 = .ok (.iconst 1, 1) := by decide +kernel
theorem dX12_count_68 : decode cX12_count 68 = .ok (.invokevirtual 565, 3) := by decide +kernel
theorem dX12_count_71 : decode cX12_count 71 = .ok (.ireturn, 1) := by decide +kernel
theorem dX12_count_72 : decode cX12_count 72 = .ok (.iconst 0, 1) := by decide +kernel
theorem dX12_count_73 : decode cX12_count 73 = .ok (.istore_n 3, 1) := by decide +kernel
theorem dX12_count_74 : decode cX12_count 74 = .ok (.iload_n 3, 1) := by decide +kernel
theorem dX12_count_75 : decode cX12_count 75 = .ok (.iload_n 1, 1) := by decide +kernel
theorem dX12_count_76 : decode cX12_count 76 = .ok (.if_icmp .ge 21, 3) := by decide +kernel
theorem dX12_count_79 : decode cX12_count 79 = .ok (.aload_n 0, 1) := by decide +kernel
theorem dX12_count_80 : decode cX12_count 80 = .ok (.getfield 160, 3) := by decide +kernel
theorem dX12_count_83 : decode cX12_count 83 = .ok (.iload_n 3, 1) := by decide +kernel
theorem dX12_count_84 : decode cX12_count 84 = .ok (.aload_n 0, 1) := by decide +kernel
theorem dX12_count_85 : decode cX12_count 85 = .ok (.getfield 7, 3) := by decide +kernel
theorem dX12_count_88 : decode cX12_count 88 = .ok (.iload_n 3, 1) := by decide +kernel
theorem dX12_count_89 : decode cX12_count 89 = .ok (.iaload, 1) := by decide +kernel
theorem dX12_count_90 : decode cX12_count 90 = .ok (.iastore, 1) := by decide +kernel
theorem dX12_count_91 : decode cX12_count 91 = .ok (.iinc 3 1, 3) := by decide +kernel
theorem dX12_count_94 : decode cX12_count 94 = .ok (.goto (-20), 3) := by decide +kernel
theorem dX12_count_97 : decode cX12_count 97 = .ok (.aload_n 0, 1) := by decide +kernel
theorem dX12_count_98 : decode cX12_count 98 = .ok (.iload_n 1, 1) := by decide +kernel
theorem dX12_count_99 : decode cX12_count 99 = .ok (.iconst 3, 1) := by decide +kernel
theorem dX12_count_100 : decode cX12_count 100 = .ok (.idiv, 1) := by decide +kernel
theorem dX12_count_101 : decode cX12_count 101 = .ok (.putfield 404, 3) := by decide +kernel
theorem dX12_count_104 : decode cX12_count 104 = .ok (.aload_n 0, 1) := by decide +kernel
theorem dX12_count_105 : decode cX12_count 105 = .ok (.getfield 404, 3) := by decide +kernel
theorem dX12_count_108 : decode cX12_count 108 = .ok (.ireturn, 1) := by decide +kernel
def f_X12_count_74 : Nat → Int32 → Int32 → Hp → Option (Int32 × Hp)
  | 0, _, _, _ => none
  | k + 1, x1, x3, S => if x1 ≤ x3 then le1 (ho_sI S 0 66 (x1 / (3 : Int32))) (fun S1 => some ((S1.1 0 66), S1)) else ldI S 1 1600 x3 (fun v2 => stI S 68 48 x3 v2 (fun S3 => le1 (x3 + (1 : Int32)) (fun v4 => f_X12_count_74 k x1 v4 S3)))
set_option maxHeartbeats 4000000 in
set_option maxRecDepth 100000 in
theorem w_X12_count_74 {p : Program} {l : Launch} {e : Env} {s : State} {m : MethodId} {args : Array Value} {below : List Frame} {meth : Method} {c : Code} {E : Ev} {S0 : Hp} {r : (Int32 × Hp)} (C : ho_I p s m args meth c RX12 cX12_count 4 (some .int)) :
    ∀ (k : Nat) (x1 : Int32) (x3 : Int32) (S : Hp), f_X12_count_74 k x1 x3 S = some r → ho_G p l e s m args below meth c yM E S0 2 4 (some (.int r.1), r.2) 74 [(0, .ref (E.2.1 0)), (1, .int x1), (3, .int x3)] [] S := by
  intro k
  induction k with
  | zero =>
    intro x1 x3 S h
    exact absurd (show (none : Option (Int32 × Hp)) = some r from h) (by simp)
  | succ k ih =>
    intro x1 x3 S h H locs ls hR hl
    rw [f_X12_count_74] at h
    refine lv_iload_n C.1 C.2.1 dX12_count_74 rfl (lv_at hl 2 rfl) ?_
    refine lv_iload_n C.1 C.2.1 dX12_count_75 rfl (lv_at hl 1 rfl) ?_
    refine lv_icmp_ge (tgt := 97) C.1 C.2.1 dX12_count_76 (by decide) (fun hc => ?_) (fun hc => ?_)
    · replace h := if_t h hc
      refine lv_aload_n C.1 C.2.1 dX12_count_97 rfl (lv_at hl 0 rfl) ?_
      refine lv_iload_n C.1 C.2.1 dX12_count_98 rfl (lv_at hl 1 rfl) ?_
      refine lv_iconst (v := (3 : Int32)) C.1 C.2.1 dX12_count_99 (by decide) ?_
      refine lv_idiv C.1 C.2.1 dX12_count_100 (by decide) ?_
      obtain ⟨S1, e1, h⟩ := le1_ok h
      refine hr_putI C cf12 fM_404 hR aM_0 e1 dX12_count_101 (fun H locs hR => ?_)
      refine lv_aload_n C.1 C.2.1 dX12_count_104 rfl (lv_at hl 0 rfl) ?_
      refine ho_getI C cf12 fM_404 hR aM_0 dX12_count_105 ?_
      exact ho_iret C hR h dX12_count_108
    · replace h := if_f h hc
      refine lv_aload_n C.1 C.2.1 dX12_count_79 rfl (lv_at hl 0 rfl) ?_
      refine ho_getR (a' := 68) C cf12 fM_160 hR aM_0 rfl dX12_count_80 ?_
      refine lv_iload_n C.1 C.2.1 dX12_count_83 rfl (lv_at hl 2 rfl) ?_
      refine lv_aload_n C.1 C.2.1 dX12_count_84 rfl (lv_at hl 0 rfl) ?_
      refine ho_getR (a' := 1) C cf12 fM_7 hR aM_0 rfl dX12_count_85 ?_
      refine lv_iload_n C.1 C.2.1 dX12_count_88 rfl (lv_at hl 2 rfl) ?_
      obtain ⟨v2, e2, hi2, h⟩ := ldI_ok h
      refine hr_ild C hR aM_1 hi2 e2 dX12_count_89 ?_
      obtain ⟨S3, e3, hi3, h⟩ := stI_ok h
      refine hr_ist C hR aM_68 hi3 e3 dX12_count_90 (fun H locs hR => ?_)
      obtain ⟨v4, e4, h⟩ := le1_ok h
      refine lv_iinc (v := v4) (lv' := [(3, .int v4), (0, .ref (E.2.1 0)), (1, .int x1)]) C.1 C.2.1 dX12_count_91 hl (k := 2) rfl (by rw [e4]; rfl) (by decide) rfl (fun ls hl => ?_)
      refine lv_goto (tgt := 74) C.1 C.2.1 dX12_count_94 (by decide) ?_
      exact ih x1 v4 S3 h _ _ _ hR (lv_sub hl [1, 2, 0] rfl)
def f_X12_count_62 (x1 : Int32) (x2 : Int32) (S : Hp) : Option (Int32 × Hp) :=
  if x2 = 0 then ob2 (f_X12_refuses (1 : Int32) S) (fun r1 S1 => some (r1, S1)) else f_X12_count_74 5000 x1 (0 : Int32) S
set_option maxHeartbeats 4000000 in
set_option maxRecDepth 100000 in
theorem w_X12_count_62 {p : Program} {l : Launch} {e : Env} {s : State} {m : MethodId} {args : Array Value} {below : List Frame} {meth : Method} {c : Code} {E : Ev} {S0 : Hp} {r : (Int32 × Hp)} (C : ho_I p s m args meth c RX12 cX12_count 4 (some .int)) :
    ∀ (x1 : Int32) (x2 : Int32) (S : Hp), f_X12_count_62 x1 x2 S = some r → ho_G p l e s m args below meth c yM E S0 2 4 (some (.int r.1), r.2) 62 [(0, .ref (E.2.1 0)), (1, .int x1), (2, .int x2)] [] S := by
  intro x1 x2 S h H locs ls hR hl
  unfold f_X12_count_62 at h
  refine lv_iload_n C.1 C.2.1 dX12_count_62 rfl (lv_at hl 2 rfl) ?_
  refine lv_if_ne (tgt := 72) C.1 C.2.1 dX12_count_63 (by decide) (fun hc => ?_) (fun hc => ?_)
  · replace h := if_f h hc
    refine lv_iconst (v := (0 : Int32)) C.1 C.2.1 dX12_count_72 (by decide) ?_
    refine lv_istore_n (lv' := [(3, .int (0 : Int32)), (0, .ref (E.2.1 0)), (1, .int x1), (2, .int x2)]) C.1 C.2.1 dX12_count_73 rfl hl (by decide) rfl (fun ls hl => ?_)
    exact w_X12_count_74 C 5000 x1 (0 : Int32) S h _ _ _ hR (lv_sub hl [1, 2, 0] rfl)
  · replace h := if_t h hc
    refine lv_aload_n C.1 C.2.1 dX12_count_66 rfl (lv_at hl 0 rfl) ?_
    refine lv_iconst (v := (1 : Int32)) C.1 C.2.1 dX12_count_67 (by decide) ?_
    obtain ⟨r1, S1, h1, h⟩ := ob2_ok h
    refine hr_Vi (v := r1) (S' := S1) (As := [.int (1 : Int32)]) (rest := []) C cf12 (c_X12_refuses l E (1 : Int32) _ _ h1) yv_X12_refuses lk_RX12_565 rfl aM_0 rfl rfl hl.1 (Nat.le_of_ble_eq_true rfl) (by decide) (by decide) hR (ho_A hR) dX12_count_68 (fun H locs hR => ?_)
    exact ho_iret C hR h dX12_count_71
def f_X12_count_36 : Nat → Int32 → Int32 → Int32 → Hp → Option (Int32 × Hp)
  | 0, _, _, _, _ => none
  | k + 1, x1, x2, x3, S => if x1 ≤ x3 then f_X12_count_62 x1 x2 S else if x2 = 0 then f_X12_count_62 x1 x2 S else ldI S 1 1600 x3 (fun v1 => ob2 (f_X12_isProvince v1 S) (fun r2 S2 => le1 (x3 + (3 : Int32)) (fun v3 => f_X12_count_36 k x1 r2 v3 S2)))
set_option maxHeartbeats 4000000 in
set_option maxRecDepth 100000 in
theorem w_X12_count_36 {p : Program} {l : Launch} {e : Env} {s : State} {m : MethodId} {args : Array Value} {below : List Frame} {meth : Method} {c : Code} {E : Ev} {S0 : Hp} {r : (Int32 × Hp)} (C : ho_I p s m args meth c RX12 cX12_count 4 (some .int)) :
    ∀ (k : Nat) (x1 : Int32) (x2 : Int32) (x3 : Int32) (S : Hp), f_X12_count_36 k x1 x2 x3 S = some r → ho_G p l e s m args below meth c yM E S0 2 4 (some (.int r.1), r.2) 36 [(0, .ref (E.2.1 0)), (1, .int x1), (2, .int x2), (3, .int x3)] [] S := by
  intro k
  induction k with
  | zero =>
    intro x1 x2 x3 S h
    exact absurd (show (none : Option (Int32 × Hp)) = some r from h) (by simp)
  | succ k ih =>
    intro x1 x2 x3 S h H locs ls hR hl
    rw [f_X12_count_36] at h
    refine lv_iload_n C.1 C.2.1 dX12_count_36 rfl (lv_at hl 3 rfl) ?_
    refine lv_iload_n C.1 C.2.1 dX12_count_37 rfl (lv_at hl 1 rfl) ?_
    refine lv_icmp_ge (tgt := 62) C.1 C.2.1 dX12_count_38 (by decide) (fun hc => ?_) (fun hc => ?_)
    · replace h := if_t h hc
      exact w_X12_count_62 C x1 x2 S h _ _ _ hR (lv_sub hl [0, 1, 2] rfl)
    · replace h := if_f h hc
      refine lv_iload_n C.1 C.2.1 dX12_count_41 rfl (lv_at hl 2 rfl) ?_
      refine lv_if_eq (tgt := 62) C.1 C.2.1 dX12_count_42 (by decide) (fun hc => ?_) (fun hc => ?_)
      · replace h := if_t h hc
        exact w_X12_count_62 C x1 x2 S h _ _ _ hR (lv_sub hl [0, 1, 2] rfl)
      · replace h := if_f h hc
        refine lv_aload_n C.1 C.2.1 dX12_count_45 rfl (lv_at hl 0 rfl) ?_
        refine lv_aload_n C.1 C.2.1 dX12_count_46 rfl (lv_at hl 0 rfl) ?_
        refine ho_getR (a' := 1) C cf12 fM_7 hR aM_0 rfl dX12_count_47 ?_
        refine lv_iload_n C.1 C.2.1 dX12_count_50 rfl (lv_at hl 3 rfl) ?_
        obtain ⟨v1, e1, hi1, h⟩ := ldI_ok h
        refine hr_ild C hR aM_1 hi1 e1 dX12_count_51 ?_
        obtain ⟨r2, S2, h2, h⟩ := ob2_ok h
        refine hr_Vi (v := r2) (S' := S2) (As := [.int v1]) (rest := []) C cf12 (c_X12_isProvince l E v1 _ _ h2) yv_X12_isProvince lk_RX12_530 rfl aM_0 rfl rfl hl.1 (Nat.le_of_ble_eq_true rfl) (by decide) (by decide) hR (ho_A hR) dX12_count_52 (fun H locs hR => ?_)
        refine lv_istore_n (lv' := [(2, .int r2), (0, .ref (E.2.1 0)), (1, .int x1), (3, .int x3)]) C.1 C.2.1 dX12_count_55 rfl hl (by decide) rfl (fun ls hl => ?_)
        obtain ⟨v3, e3, h⟩ := le1_ok h
        refine lv_iinc (v := v3) (lv' := [(3, .int v3), (2, .int r2), (0, .ref (E.2.1 0)), (1, .int x1)]) C.1 C.2.1 dX12_count_56 hl (k := 3) rfl (by rw [e3]; rfl) (by decide) rfl (fun ls hl => ?_)
        refine lv_goto (tgt := 36) C.1 C.2.1 dX12_count_59 (by decide) ?_
        exact ih x1 r2 v3 S2 h _ _ _ hR (lv_sub hl [2, 3, 1, 0] rfl)
def f_X12_count_33 (x1 : Int32) (z0 : Int32) (S : Hp) : Option (Int32 × Hp) :=
  f_X12_count_36 5000 x1 z0 (0 : Int32) S
set_option maxHeartbeats 4000000 in
set_option maxRecDepth 100000 in
theorem w_X12_count_33 {p : Program} {l : Launch} {e : Env} {s : State} {m : MethodId} {args : Array Value} {below : List Frame} {meth : Method} {c : Code} {E : Ev} {S0 : Hp} {r : (Int32 × Hp)} (C : ho_I p s m args meth c RX12 cX12_count 4 (some .int)) :
    ∀ (x1 : Int32) (z0 : Int32) (S : Hp), f_X12_count_33 x1 z0 S = some r → ho_G p l e s m args below meth c yM E S0 2 4 (some (.int r.1), r.2) 33 [(0, .ref (E.2.1 0)), (1, .int x1)] [.int z0] S := by
  intro x1 z0 S h H locs ls hR hl
  unfold f_X12_count_33 at h
  refine lv_istore_n (lv' := [(2, .int z0), (0, .ref (E.2.1 0)), (1, .int x1)]) C.1 C.2.1 dX12_count_33 rfl hl (by decide) rfl (fun ls hl => ?_)
  refine lv_iconst (v := (0 : Int32)) C.1 C.2.1 dX12_count_34 (by decide) ?_
  refine lv_istore_n (lv' := [(3, .int (0 : Int32)), (2, .int z0), (0, .ref (E.2.1 0)), (1, .int x1)]) C.1 C.2.1 dX12_count_35 rfl hl (by decide) rfl (fun ls hl => ?_)
  exact w_X12_count_36 C 5000 x1 z0 (0 : Int32) S h _ _ _ hR (lv_sub hl [2, 3, 1, 0] rfl)
def f_X12_count_32 (x1 : Int32) (S : Hp) : Option (Int32 × Hp) :=
  f_X12_count_33 x1 (0 : Int32) S
set_option maxHeartbeats 4000000 in
set_option maxRecDepth 100000 in
theorem w_X12_count_32 {p : Program} {l : Launch} {e : Env} {s : State} {m : MethodId} {args : Array Value} {below : List Frame} {meth : Method} {c : Code} {E : Ev} {S0 : Hp} {r : (Int32 × Hp)} (C : ho_I p s m args meth c RX12 cX12_count 4 (some .int)) :
    ∀ (x1 : Int32) (S : Hp), f_X12_count_32 x1 S = some r → ho_G p l e s m args below meth c yM E S0 2 4 (some (.int r.1), r.2) 32 [(0, .ref (E.2.1 0)), (1, .int x1)] [] S := by
  intro x1 S h H locs ls hR hl
  unfold f_X12_count_32 at h
  refine lv_iconst (v := (0 : Int32)) C.1 C.2.1 dX12_count_32 (by decide) ?_
  exact w_X12_count_33 C x1 (0 : Int32) S h _ _ _ hR (lv_sub hl [0, 1] rfl)
def f_X12_count (S : Hp) : Option (Int32 × Hp) :=
  le1 (S.1 0 1) (fun v1 => le1 (ho_sI S 0 1 (0 : Int32)) (fun S2 => if v1 ≤ 0 then f_X12_count_32 v1 S2 else if (v1 - v1 / (3 : Int32) * (3 : Int32)) = 0 then if (16 : Int32) < (v1 / (3 : Int32)) then f_X12_count_32 v1 S2 else f_X12_count_33 v1 (1 : Int32) S2 else f_X12_count_32 v1 S2))
set_option maxHeartbeats 4000000 in
set_option maxRecDepth 100000 in
theorem c_X12_count (l : Launch) (E : Ev) (S : Hp) (r : (Int32 × Hp)) (h : f_X12_count S = some r) : ho_M l yM E yX12_count cX12_count 4 (some .int) 2 [.ref (E.2.1 0)] S (some (.int r.1), r.2) := by
  refine ho_in (by decide) (Nat.le_of_ble_eq_true rfl) ?_
  intro p e s m args below meth c C hR ls hl
  have C : ho_I p s m args meth c RX12 cX12_count 4 (some .int) := C
  have hl : lv_has ls 4 [(0, .ref (E.2.1 0))] := hl
  unfold f_X12_count at h
  refine lv_aload_n C.1 C.2.1 dX12_count_0 rfl (lv_at hl 0 rfl) ?_
  refine ho_getI C cf12 fM_261 hR aM_0 dX12_count_1 ?_
  refine lv_topi (fun v1 e1 => ?_)
  replace h := le1_at e1 h
  refine lv_istore_n (lv' := [(1, .int v1), (0, .ref (E.2.1 0))]) C.1 C.2.1 dX12_count_4 rfl hl (by decide) rfl (fun ls hl => ?_)
  refine lv_aload_n C.1 C.2.1 dX12_count_5 rfl (lv_at hl 1 rfl) ?_
  refine lv_iconst (v := (0 : Int32)) C.1 C.2.1 dX12_count_6 (by decide) ?_
  obtain ⟨S2, e2, h⟩ := le1_ok h
  refine hr_putI C cf12 fM_261 hR aM_0 e2 dX12_count_7 (fun H locs hR => ?_)
  refine lv_iload_n C.1 C.2.1 dX12_count_10 rfl (lv_at hl 0 rfl) ?_
  refine lv_if_le (tgt := 32) C.1 C.2.1 dX12_count_11 (by decide) (fun hc => ?_) (fun hc => ?_)
  · replace h := if_t h hc
    exact w_X12_count_32 C v1 S2 h _ _ _ hR (lv_sub hl [1, 0] rfl)
  · replace h := if_f h hc
    refine lv_iload_n C.1 C.2.1 dX12_count_14 rfl (lv_at hl 0 rfl) ?_
    refine lv_iconst (v := (3 : Int32)) C.1 C.2.1 dX12_count_15 (by decide) ?_
    refine lv_irem C.1 C.2.1 dX12_count_16 (by decide) ?_
    refine lv_if_ne (tgt := 32) C.1 C.2.1 dX12_count_17 (by decide) (fun hc => ?_) (fun hc => ?_)
    · replace h := if_f h hc
      exact w_X12_count_32 C v1 S2 h _ _ _ hR (lv_sub hl [1, 0] rfl)
    · replace h := if_t h hc
      refine lv_iload_n C.1 C.2.1 dX12_count_20 rfl (lv_at hl 0 rfl) ?_
      refine lv_iconst (v := (3 : Int32)) C.1 C.2.1 dX12_count_21 (by decide) ?_
      refine lv_idiv C.1 C.2.1 dX12_count_22 (by decide) ?_
      refine lv_bipush (v := (16 : Int32)) C.1 C.2.1 dX12_count_23 (by decide) ?_
      refine lv_icmp_gt (tgt := 32) C.1 C.2.1 dX12_count_25 (by decide) (fun hc => ?_) (fun hc => ?_)
      · replace h := if_t h hc
        exact w_X12_count_32 C v1 S2 h _ _ _ hR (lv_sub hl [1, 0] rfl)
      · replace h := if_f h hc
        refine lv_iconst (v := (1 : Int32)) C.1 C.2.1 dX12_count_28 (by decide) ?_
        refine lv_goto (tgt := 33) C.1 C.2.1 dX12_count_29 (by decide) ?_
        exact w_X12_count_33 C v1 (1 : Int32) S2 h _ _ _ hR (lv_sub hl [1, 0] rfl)
