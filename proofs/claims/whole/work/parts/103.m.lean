theorem dX12_sightAll_0 : decode cX12_sightAll 0 = .ok (.iconst 0, 1) := by decide +kernel
theorem dX12_sightAll_1 : decode cX12_sightAll 1 = .ok (.istore_n 3, 1) := by decide +kernel
theorem dX12_sightAll_2 : decode cX12_sightAll 2 = .ok (.iconst 0, 1) := by decide +kernel
theorem dX12_sightAll_3 : decode cX12_sightAll 3 = .ok (.istore 4, 2) := by decide +kernel
theorem dX12_sightAll_5 : decode cX12_sightAll 5 = .ok (.iload 4, 2) := by decide +kernel
theorem dX12_sightAll_7 : decode cX12_sightAll 7 = .ok (.aload_n 0, 1) := by decide +kernel
theorem dX12_sightAll_8 : decode cX12_sightAll 8 = .ok (.invokevirtual 410, 3) := by decide +kernel
theorem dX12_sightAll_11 : decode cX12_sightAll 11 = .ok (.if_icmp .ge 20, 3) := by decide +kernel
theorem dX12_sightAll_14 : decode cX12_sightAll 14 = .ok (.iload_n 3, 1) := by decide +kernel
theorem dX12_sightAll_15 : decode cX12_sightAll 15 = .ok (.aload_n 0, 1) := by decide +kernel
theorem dX12_sightAll_16 : decode cX12_sightAll 16 = .ok (.iload 4, 2) := by decide +kernel
theorem dX12_sightAll_18 : decode cX12_sightAll 18 = .ok (.iload_n 1, 1) := by decide +kernel
theorem dX12_sightAll_19 : decode cX12_sightAll 19 = .ok (.iload_n 2, 1) := by decide +kernel
theorem dX12_sightAll_20 : decode cX12_sightAll 20 = .ok (.invokevirtual 445, 3) := by decide +kernel
theorem dX12_sightAll_23 : decode cX12_sightAll 23 = .ok (.iadd, 1) := by decide +kernel
theorem dX12_sightAll_24 : decode cX12_sightAll 24 = .ok (.istore_n 3, 1) := by decide +kernel
theorem dX12_sightAll_25 : decode cX12_sightAll 25 = .ok (.iinc 4 1, 3) := by decide +kernel
theorem dX12_sightAll_28 : decode cX12_sightAll 28 = .ok (.goto (-23), 3) := by decide +kernel
theorem dX12_sightAll_31 : decode cX12_sightAll 31 = .ok (.iload_n 3, 1) := by decide +kernel
theorem dX12_sightAll_32 : decode cX12_sightAll 32 = .ok (.ireturn, 1) := by decide +kernel
def f_X12_sightAll_5 : Nat → Int32 → Int32 → Int32 → Int32 → Hp → Option (Int32 × Hp)
  | 0, _, _, _, _, _ => none
  | k + 1, x1, x2, x3, x4, S => ob2 (f_X12_trickMany S) (fun r1 S1 => if r1 ≤ x4 then some (x3, S1) else ob2 (f_X12_sightBy x4 x1 x2 S1) (fun r2 S2 => le1 (x3 + r2) (fun v3 => le1 (x4 + (1 : Int32)) (fun v4 => f_X12_sightAll_5 k x1 x2 v3 v4 S2))))
set_option maxHeartbeats 4000000 in
set_option maxRecDepth 100000 in
theorem w_X12_sightAll_5 {p : Program} {l : Launch} {e : Env} {s : State} {m : MethodId} {args : Array Value} {below : List Frame} {meth : Method} {c : Code} {E : Ev} {S0 : Hp} {r : (Int32 × Hp)} (C : ho_I p s m args meth c RX12 cX12_sightAll 5 (some .int)) :
    ∀ (k : Nat) (x1 : Int32) (x2 : Int32) (x3 : Int32) (x4 : Int32) (S : Hp), f_X12_sightAll_5 k x1 x2 x3 x4 S = some r → ho_G p l e s m args below meth c yM E S0 4 5 (some (.int r.1), r.2) 5 [(0, .ref (E.2.1 0)), (1, .int x1), (2, .int x2), (3, .int x3), (4, .int x4)] [] S := by
  intro k
  induction k with
  | zero =>
    intro x1 x2 x3 x4 S h
    exact absurd (show (none : Option (Int32 × Hp)) = some r from h) (by simp)
  | succ k ih =>
    intro x1 x2 x3 x4 S h H locs ls hR hl
    rw [f_X12_sightAll_5] at h
    refine lv_iload C.1 C.2.1 dX12_sightAll_5 (lv_at hl 4 rfl) ?_
    refine lv_aload_n C.1 C.2.1 dX12_sightAll_7 rfl (lv_at hl 0 rfl) ?_
    obtain ⟨r1, S1, h1, h⟩ := ob2_ok h
    refine hr_Vi (v := r1) (S' := S1) (As := []) (rest := [.int x4]) C cf12 (c_X12_trickMany l E _ _ h1) yv_X12_trickMany lk_RX12_410 rfl aM_0 rfl rfl hl.1 (Nat.le_of_ble_eq_true rfl) (by decide) (by decide) hR (ho_A hR) dX12_sightAll_8 (fun H locs hR => ?_)
    refine lv_icmp_ge (tgt := 31) C.1 C.2.1 dX12_sightAll_11 (by decide) (fun hc => ?_) (fun hc => ?_)
    · replace h := if_t h hc
      refine lv_iload_n C.1 C.2.1 dX12_sightAll_31 rfl (lv_at hl 3 rfl) ?_
      exact ho_iret C hR h dX12_sightAll_32
    · replace h := if_f h hc
      refine lv_iload_n C.1 C.2.1 dX12_sightAll_14 rfl (lv_at hl 3 rfl) ?_
      refine lv_aload_n C.1 C.2.1 dX12_sightAll_15 rfl (lv_at hl 0 rfl) ?_
      refine lv_iload C.1 C.2.1 dX12_sightAll_16 (lv_at hl 4 rfl) ?_
      refine lv_iload_n C.1 C.2.1 dX12_sightAll_18 rfl (lv_at hl 1 rfl) ?_
      refine lv_iload_n C.1 C.2.1 dX12_sightAll_19 rfl (lv_at hl 2 rfl) ?_
      obtain ⟨r2, S2, h2, h⟩ := ob2_ok h
      refine hr_Vi (v := r2) (S' := S2) (As := [.int x4, .int x1, .int x2]) (rest := [.int x3]) C cf12 (c_X12_sightBy l E x4 x1 x2 _ _ h2) yv_X12_sightBy lk_RX12_445 rfl aM_0 rfl rfl hl.1 (Nat.le_of_ble_eq_true rfl) (by decide) (by decide) hR (ho_A hR) dX12_sightAll_20 (fun H locs hR => ?_)
      refine lv_iadd C.1 C.2.1 dX12_sightAll_23 ?_
      refine lv_topi (fun v3 e3 => ?_)
      replace h := le1_at e3 h
      refine lv_istore_n (lv' := [(3, .int v3), (0, .ref (E.2.1 0)), (1, .int x1), (2, .int x2), (4, .int x4)]) C.1 C.2.1 dX12_sightAll_24 rfl hl (by decide) rfl (fun ls hl => ?_)
      obtain ⟨v4, e4, h⟩ := le1_ok h
      refine lv_iinc (v := v4) (lv' := [(4, .int v4), (3, .int v3), (0, .ref (E.2.1 0)), (1, .int x1), (2, .int x2)]) C.1 C.2.1 dX12_sightAll_25 hl (k := 4) rfl (by rw [e4]; rfl) (by decide) rfl (fun ls hl => ?_)
      refine lv_goto (tgt := 5) C.1 C.2.1 dX12_sightAll_28 (by decide) ?_
      exact ih x1 x2 v3 v4 S2 h _ _ _ hR (lv_sub hl [2, 3, 4, 1, 0] rfl)
def f_X12_sightAll (x1 : Int32) (x2 : Int32) (S : Hp) : Option (Int32 × Hp) :=
  f_X12_sightAll_5 5000 x1 x2 (0 : Int32) (0 : Int32) S
set_option maxHeartbeats 4000000 in
set_option maxRecDepth 100000 in
theorem c_X12_sightAll (l : Launch) (E : Ev) (x1 : Int32) (x2 : Int32) (S : Hp) (r : (Int32 × Hp)) (h : f_X12_sightAll x1 x2 S = some r) : ho_M l yM E yX12_sightAll cX12_sightAll 5 (some .int) 4 [.ref (E.2.1 0), .int x1, .int x2] S (some (.int r.1), r.2) := by
  refine ho_in (by decide) (Nat.le_of_ble_eq_true rfl) ?_
  intro p e s m args below meth c C hR ls hl
  have C : ho_I p s m args meth c RX12 cX12_sightAll 5 (some .int) := C
  have hl : lv_has ls 5 [(0, .ref (E.2.1 0)), (1, .int x1), (2, .int x2)] := hl
  unfold f_X12_sightAll at h
  refine lv_iconst (v := (0 : Int32)) C.1 C.2.1 dX12_sightAll_0 (by decide) ?_
  refine lv_istore_n (lv' := [(3, .int (0 : Int32)), (0, .ref (E.2.1 0)), (1, .int x1), (2, .int x2)]) C.1 C.2.1 dX12_sightAll_1 rfl hl (by decide) rfl (fun ls hl => ?_)
  refine lv_iconst (v := (0 : Int32)) C.1 C.2.1 dX12_sightAll_2 (by decide) ?_
  refine lv_istore (lv' := [(4, .int (0 : Int32)), (3, .int (0 : Int32)), (0, .ref (E.2.1 0)), (1, .int x1), (2, .int x2)]) C.1 C.2.1 dX12_sightAll_3 hl (by decide) rfl (fun ls hl => ?_)
  exact w_X12_sightAll_5 C 5000 x1 x2 (0 : Int32) (0 : Int32) S h _ _ _ hR (lv_sub hl [2, 3, 4, 1, 0] rfl)
theorem dX12_throughSet_0 : decode cX12_throughSet 0 = .ok (.iconst 0, 1) := by decide +kernel
theorem dX12_throughSet_1 : decode cX12_throughSet 1 = .ok (.istore_n 1, 1) := by decide +kernel
theorem dX12_throughSet_2 : decode cX12_throughSet 2 = .ok (.iconst 0, 1) := by decide +kernel
theorem dX12_throughSet_3 : decode cX12_throughSet 3 = .ok (.istore_n 2, 1) := by decide +kernel
theorem dX12_throughSet_4 : decode cX12_throughSet 4 = .ok (.iload_n 2, 1) := by decide +kernel
theorem dX12_throughSet_5 : decode cX12_throughSet 5 = .ok (.aload_n 0, 1) := by decide +kernel
theorem dX12_throughSet_6 : decode cX12_throughSet 6 = .ok (.invokevirtual 410, 3) := by decide +kernel
theorem dX12_throughSet_9 : decode cX12_throughSet 9 = .ok (.if_icmp .ge 25, 3) := by decide +kernel
theorem dX12_throughSet_12 : decode cX12_throughSet 12 = .ok (.aload_n 0, 1) := by decide +kernel
theorem dX12_throughSet_13 : decode cX12_throughSet 13 = .ok (.iload_n 2, 1) := by decide +kernel
theorem dX12_throughSet_14 : decode cX12_throughSet 14 = .ok (.invokevirtual 449, 3) := by decide +kernel
theorem dX12_throughSet_17 : decode cX12_throughSet 17 = .ok (.bipush 100, 2) := by decide +kernel
theorem dX12_throughSet_19 : decode cX12_throughSet 19 = .ok (.if_icmp .lt 9, 3) := by decide +kernel
theorem dX12_throughSet_22 : decode cX12_throughSet 22 = .ok (.iload_n 1, 1) := by decide +kernel
theorem dX12_throughSet_23 : decode cX12_throughSet 23 = .ok (.iconst 1, 1) := by decide +kernel
theorem dX12_throughSet_24 : decode cX12_throughSet 24 = .ok (.iload_n 2, 1) := by decide +kernel
theorem dX12_throughSet_25 : decode cX12_throughSet 25 = .ok (.ishl, 1) := by decide +kernel
theorem dX12_throughSet_26 : decode cX12_throughSet 26 = .ok (.ior, 1) := by decide +kernel
theorem dX12_throughSet_27 : decode cX12_throughSet 27 = .ok (.istore_n 1, 1) := by decide +kernel
theorem dX12_throughSet_28 : decode cX12_throughSet 28 = .ok (.iinc 2 1, 3) := by decide +kernel
theorem dX12_throughSet_31 : decode cX12_throughSet 31 = .ok (.goto (-27), 3) := by decide +kernel
theorem dX12_throughSet_34 : decode cX12_throughSet 34 = .ok (.iload_n 1, 1) := by decide +kernel
theorem dX12_throughSet_35 : decode cX12_throughSet 35 = .ok (.ireturn, 1) := by decide +kernel
def f_X12_throughSet_28 (K4 : Int32 → Int32 → Hp → Option (Int32 × Hp)) (x1 : Int32) (x2 : Int32) (S : Hp) : Option (Int32 × Hp) :=
  le1 (x2 + (1 : Int32)) (fun v1 => K4 x1 v1 S)
set_option maxHeartbeats 4000000 in
set_option maxRecDepth 100000 in
theorem w_X12_throughSet_28 {p : Program} {l : Launch} {e : Env} {s : State} {m : MethodId} {args : Array Value} {below : List Frame} {meth : Method} {c : Code} {E : Ev} {S0 : Hp} {r : (Int32 × Hp)} (C : ho_I p s m args meth c RX12 cX12_throughSet 3 (some .int)) (K4 : Int32 → Int32 → Hp → Option (Int32 × Hp)) (hK4 : ∀ (y1 : Int32) (y2 : Int32) (S : Hp), K4 y1 y2 S = some r → ho_G p l e s m args below meth c yM E S0 1 3 (some (.int r.1), r.2) 4 [(0, .ref (E.2.1 0)), (1, .int y1), (2, .int y2)] [] S) :
    ∀ (x1 : Int32) (x2 : Int32) (S : Hp), f_X12_throughSet_28 K4 x1 x2 S = some r → ho_G p l e s m args below meth c yM E S0 1 3 (some (.int r.1), r.2) 28 [(0, .ref (E.2.1 0)), (1, .int x1), (2, .int x2)] [] S := by
  intro x1 x2 S h H locs ls hR hl
  unfold f_X12_throughSet_28 at h
  obtain ⟨v1, e1, h⟩ := le1_ok h
  refine lv_iinc (v := v1) (lv' := [(2, .int v1), (0, .ref (E.2.1 0)), (1, .int x1)]) C.1 C.2.1 dX12_throughSet_28 hl (k := 2) rfl (by rw [e1]; rfl) (by decide) rfl (fun ls hl => ?_)
  refine lv_goto (tgt := 4) C.1 C.2.1 dX12_throughSet_31 (by decide) ?_
  exact hK4 x1 v1 S h _ _ _ hR (lv_sub hl [1, 2, 0] rfl)
def f_X12_throughSet_4 : Nat → Int32 → Int32 → Hp → Option (Int32 × Hp)
  | 0, _, _, _ => none
  | k + 1, x1, x2, S => ob2 (f_X12_trickMany S) (fun r1 S1 => if r1 ≤ x2 then some (x1, S1) else ob2 (f_X12_knownOf x2 S1) (fun r2 S2 => if r2 < (100 : Int32) then f_X12_throughSet_28 (f_X12_throughSet_4 k) x1 x2 S2 else le1 (x1 ||| ((1 : Int32) <<< (x2 &&& 31))) (fun v3 => f_X12_throughSet_28 (f_X12_throughSet_4 k) v3 x2 S2)))
set_option maxHeartbeats 4000000 in
set_option maxRecDepth 100000 in
theorem w_X12_throughSet_4 {p : Program} {l : Launch} {e : Env} {s : State} {m : MethodId} {args : Array Value} {below : List Frame} {meth : Method} {c : Code} {E : Ev} {S0 : Hp} {r : (Int32 × Hp)} (C : ho_I p s m args meth c RX12 cX12_throughSet 3 (some .int)) :
    ∀ (k : Nat) (x1 : Int32) (x2 : Int32) (S : Hp), f_X12_throughSet_4 k x1 x2 S = some r → ho_G p l e s m args below meth c yM E S0 1 3 (some (.int r.1), r.2) 4 [(0, .ref (E.2.1 0)), (1, .int x1), (2, .int x2)] [] S := by
  intro k
  induction k with
  | zero =>
    intro x1 x2 S h
    exact absurd (show (none : Option (Int32 × Hp)) = some r from h) (by simp)
  | succ k ih =>
    intro x1 x2 S h H locs ls hR hl
    rw [f_X12_throughSet_4] at h
    refine lv_iload_n C.1 C.2.1 dX12_throughSet_4 rfl (lv_at hl 2 rfl) ?_
    refine lv_aload_n C.1 C.2.1 dX12_throughSet_5 rfl (lv_at hl 0 rfl) ?_
    obtain ⟨r1, S1, h1, h⟩ := ob2_ok h
    refine hr_Vi (v := r1) (S' := S1) (As := []) (rest := [.int x2]) C cf12 (c_X12_trickMany l E _ _ h1) yv_X12_trickMany lk_RX12_410 rfl aM_0 rfl rfl hl.1 (Nat.le_of_ble_eq_true rfl) (by decide) (by decide) hR (ho_A hR) dX12_throughSet_6 (fun H locs hR => ?_)
    refine lv_icmp_ge (tgt := 34) C.1 C.2.1 dX12_throughSet_9 (by decide) (fun hc => ?_) (fun hc => ?_)
    · replace h := if_t h hc
      refine lv_iload_n C.1 C.2.1 dX12_throughSet_34 rfl (lv_at hl 1 rfl) ?_
      exact ho_iret C hR h dX12_throughSet_35
    · replace h := if_f h hc
      refine lv_aload_n C.1 C.2.1 dX12_throughSet_12 rfl (lv_at hl 0 rfl) ?_
      refine lv_iload_n C.1 C.2.1 dX12_throughSet_13 rfl (lv_at hl 2 rfl) ?_
      obtain ⟨r2, S2, h2, h⟩ := ob2_ok h
      refine hr_Vi (v := r2) (S' := S2) (As := [.int x2]) (rest := []) C cf12 (c_X12_knownOf l E x2 _ _ h2) yv_X12_knownOf lk_RX12_449 rfl aM_0 rfl rfl hl.1 (Nat.le_of_ble_eq_true rfl) (by decide) (by decide) hR (ho_A hR) dX12_throughSet_14 (fun H locs hR => ?_)
      refine lv_bipush (v := (100 : Int32)) C.1 C.2.1 dX12_throughSet_17 (by decide) ?_
      refine lv_icmp_lt (tgt := 28) C.1 C.2.1 dX12_throughSet_19 (by decide) (fun hc => ?_) (fun hc => ?_)
      · replace h := if_t h hc
        exact w_X12_throughSet_28 C (f_X12_throughSet_4 k) ih x1 x2 S2 h _ _ _ hR (lv_sub hl [0, 1, 2] rfl)
      · replace h := if_f h hc
        refine lv_iload_n C.1 C.2.1 dX12_throughSet_22 rfl (lv_at hl 1 rfl) ?_
        refine lv_iconst (v := (1 : Int32)) C.1 C.2.1 dX12_throughSet_23 (by decide) ?_
        refine lv_iload_n C.1 C.2.1 dX12_throughSet_24 rfl (lv_at hl 2 rfl) ?_
        refine lv_ishl C.1 C.2.1 dX12_throughSet_25 ?_
        refine lv_ior C.1 C.2.1 dX12_throughSet_26 ?_
        refine lv_topi (fun v3 e3 => ?_)
        replace h := le1_at e3 h
        refine lv_istore_n (lv' := [(1, .int v3), (0, .ref (E.2.1 0)), (2, .int x2)]) C.1 C.2.1 dX12_throughSet_27 rfl hl (by decide) rfl (fun ls hl => ?_)
        exact w_X12_throughSet_28 C (f_X12_throughSet_4 k) ih v3 x2 S2 h _ _ _ hR (lv_sub hl [1, 0, 2] rfl)
def f_X12_throughSet (S : Hp) : Option (Int32 × Hp) :=
  f_X12_throughSet_4 5000 (0 : Int32) (0 : Int32) S
set_option maxHeartbeats 4000000 in
set_option maxRecDepth 100000 in
theorem c_X12_throughSet (l : Launch) (E : Ev) (S : Hp) (r : (Int32 × Hp)) (h : f_X12_throughSet S = some r) : ho_M l yM E yX12_throughSet cX12_throughSet 3 (some .int) 1 [.ref (E.2.1 0)] S (some (.int r.1), r.2) := by
  refine ho_in (by decide) (Nat.le_of_ble_eq_true rfl) ?_
  intro p e s m args below meth c C hR ls hl
  have C : ho_I p s m args meth c RX12 cX12_throughSet 3 (some .int) := C
  have hl : lv_has ls 3 [(0, .ref (E.2.1 0))] := hl
  unfold f_X12_throughSet at h
  refine lv_iconst (v := (0 : Int32)) C.1 C.2.1 dX12_throughSet_0 (by decide) ?_
  refine lv_istore_n (lv' := [(1, .int (0 : Int32)), (0, .ref (E.2.1 0))]) C.1 C.2.1 dX12_throughSet_1 rfl hl (by decide) rfl (fun ls hl => ?_)
  refine lv_iconst (v := (0 : Int32)) C.1 C.2.1 dX12_throughSet_2 (by decide) ?_
  refine lv_istore_n (lv' := [(2, .int (0 : Int32)), (1, .int (0 : Int32)), (0, .ref (E.2.1 0))]) C.1 C.2.1 dX12_throughSet_3 rfl hl (by decide) rfl (fun ls hl => ?_)
  exact w_X12_throughSet_4 C 5000 (0 : Int32) (0 : Int32) S h _ _ _ hR (lv_sub hl [2, 1, 0] rfl)
theorem dX12_allTricks_0 : decode cX12_allTricks 0 = .ok (.iconst 1, 1) := by decide +kernel
theorem dX12_allTricks_1 : decode cX12_allTricks 1 = .ok (.aload_n 0, 1) := by decide +kernel
theorem dX12_allTricks_2 : decode cX12_allTricks 2 = .ok (.invokevirtual 410, 3) := by decide +kernel
theorem dX12_allTricks_5 : decode cX12_allTricks 5 = .ok (.ishl, 1) := by decide +kernel
theorem dX12_allTricks_6 : decode cX12_allTricks 6 = .ok (.iconst 1, 1) := by decide +kernel
theorem dX12_allTricks_7 : decode cX12_allTricks 7 = .ok (.isub, 1) := by decide +kernel
theorem dX12_allTricks_8 : decode cX12_allTricks 8 = .ok (.ireturn, 1) := by decide +kernel
def f_X12_allTricks (S : Hp) : Option (Int32 × Hp) :=
  ob2 (f_X12_trickMany S) (fun r1 S1 => some ((((1 : Int32) <<< (r1 &&& 31)) - (1 : Int32)), S1))
set_option maxHeartbeats 4000000 in
set_option maxRecDepth 100000 in
theorem c_X12_allTricks (l : Launch) (E : Ev) (S : Hp) (r : (Int32 × Hp)) (h : f_X12_allTricks S = some r) : ho_M l yM E yX12_allTricks cX12_allTricks 1 (some .int) 1 [.ref (E.2.1 0)] S (some (.int r.1), r.2) := by
  refine ho_in (by decide) (Nat.le_of_ble_eq_true rfl) ?_
  intro p e s m args below meth c C hR ls hl
  have C : ho_I p s m args meth c RX12 cX12_allTricks 1 (some .int) := C
  have hl : lv_has ls 1 [(0, .ref (E.2.1 0))] := hl
  unfold f_X12_allTricks at h
  refine lv_iconst (v := (1 : Int32)) C.1 C.2.1 dX12_allTricks_0 (by decide) ?_
  refine lv_aload_n C.1 C.2.1 dX12_allTricks_1 rfl (lv_at hl 0 rfl) ?_
  obtain ⟨r1, S1, h1, h⟩ := ob2_ok h
  refine hr_Vi (v := r1) (S' := S1) (As := []) (rest := [.int (1 : Int32)]) C cf12 (c_X12_trickMany l E _ _ h1) yv_X12_trickMany lk_RX12_410 rfl aM_0 rfl rfl hl.1 (Nat.le_of_ble_eq_true rfl) (by decide) (by decide) hR (ho_A hR) dX12_allTricks_2 (fun H locs hR => ?_)
  refine lv_ishl C.1 C.2.1 dX12_allTricks_5 ?_
  refine lv_iconst (v := (1 : Int32)) C.1 C.2.1 dX12_allTricks_6 (by decide) ?_
  refine lv_isub C.1 C.2.1 dX12_allTricks_7 ?_
  exact ho_iret C hR h dX12_allTricks_8
theorem dX12_canShow_0 : decode cX12_canShow 0 = .ok (.aload_n 0, 1) := by decide +kernel
theorem dX12_canShow_1 : decode cX12_canShow 1 = .ok (.getfield 397, 3) := by decide +kernel
theorem dX12_canShow_4 : decode cX12_canShow 4 = .ok (.ifCond .eq 43, 3) := by decide +kernel
theorem dX12_canShow_7 : decode cX12_canShow 7 = .ok (.iload_n 1, 1) := by decide +kernel
theorem dX12_canShow_8 : decode cX12_canShow 8 = .ok (.i2l, 1) := by decide +kernel
theorem dX12_canShow_9 : decode cX12_canShow 9 = .ok (.lconst 0, 1) := by decide +kernel
theorem dX12_canShow_10 : decode cX12_canShow 10 = .ok (.aload_n 0, 1) := by decide +kernel
theorem dX12_canShow_11 : decode cX12_canShow 11 = .ok (.invokevirtual 452, 3) := by decide +kernel
theorem dX12_canShow_14 : decode cX12_canShow 14 = .ok (.i2l, 1) := by decide +kernel
theorem dX12_canShow_15 : decode cX12_canShow 15 = .ok (.invokestatic 304, 3) := by decide +kernel
theorem dX12_canShow_18 : decode cX12_canShow 18 = .ok (.ifCond .eq 29, 3) := by decide +kernel
theorem dX12_canShow_21 : decode cX12_canShow 21 = .ok (.iload_n 1, 1) := by decide +kernel
theorem dX12_canShow_22 : decode cX12_canShow 22 = .ok (.aload_n 0, 1) := by decide +kernel
theorem dX12_canShow_23 : decode cX12_canShow 23 = .ok (.invokevirtual 455, 3) := by decide +kernel
theorem dX12_canShow_26 : decode cX12_canShow 26 = .ok (.iand, 1) := by decide +kernel
theorem dX12_canShow_27 : decode cX12_canShow 27 = .ok (.ifCond .ne 20, 3) := by decide +kernel
theorem dX12_canShow_30 : decode cX12_canShow 30 = .ok (.iload_n 1, 1) := by decide +kernel
theorem dX12_canShow_31 : decode cX12_canShow 31 = .ok (.ifCond .eq 12, 3) := by decide +kernel
theorem dX12_canShow_34 : decode cX12_canShow 34 = .ok (.aload_n 0, 1) := by decide +kernel
theorem dX12_canShow_35 : decode cX12_canShow 35 = .ok (.getfield 139, 3) := by decide +kernel
theorem dX12_canShow_38 : decode cX12_canShow 38 = .ok (.iconst 2, 1) := by decide +kernel
theorem dX12_canShow_39 : decode cX12_canShow 39 = .ok (.iaload, 1) := by decide +kernel
theorem dX12_canShow_40 : decode cX12_canShow 40 = .ok (.ifCond .le 7, 3) := by decide +kernel
theorem dX12_canShow_43 : decode cX12_canShow 43 = .ok (.iconst 1, 1) := by decide +kernel
theorem dX12_canShow_44 : decode cX12_canShow 44 = .ok (.goto 4, 3) := by decide +kernel
theorem dX12_canShow_47 : decode cX12_canShow 47 = .ok (.iconst 0, 1) := by decide +kernel
theorem dX12_canShow_48 : decode cX12_canShow 48 = .ok (.ireturn, 1) := by decide +kernel
def f_X12_canShow_43 (S : Hp) : Option (Int32 × Hp) :=
  some ((1 : Int32), S)
set_option maxHeartbeats 4000000 in
set_option maxRecDepth 100000 in
theorem w_X12_canShow_43 {p : Program} {l : Launch} {e : Env} {s : State} {m : MethodId} {args : Array Value} {below : List Frame} {meth : Method} {c : Code} {E : Ev} {S0 : Hp} {r : (Int32 × Hp)} (C : ho_I p s m args meth c RX12 cX12_canShow 2 (some .boolean)) :
    ∀ (S : Hp), f_X12_canShow_43 S = some r → ho_G p l e s m args below meth c yM E S0 2 2 (some (.int r.1), r.2) 43 [] [] S := by
  intro S h H locs ls hR hl
  unfold f_X12_canShow_43 at h
  refine lv_iconst (v := (1 : Int32)) C.1 C.2.1 dX12_canShow_43 (by decide) ?_
  refine lv_goto (tgt := 48) C.1 C.2.1 dX12_canShow_44 (by decide) ?_
  exact ho_zret C hR (Or.inr rfl) h dX12_canShow_48
def f_X12_canShow (x1 : Int32) (S : Hp) : Option (Int32 × Hp) :=
  if (S.1 0 52) = 0 then some ((0 : Int32), S) else ob2 (f_X12_allTricks S) (fun r1 S1 => ob2 (f_X12_isIn (x1.toInt64) (0 : Int64) (r1.toInt64) S1) (fun r2 S2 => if r2 = 0 then some ((0 : Int32), S2) else ob2 (f_X12_throughSet S2) (fun r3 S3 => if (x1 &&& r3) = 0 then if x1 = 0 then f_X12_canShow_43 S3 else ldI S3 55 117 (2 : Int32) (fun v4 => if v4 ≤ 0 then some ((0 : Int32), S3) else f_X12_canShow_43 S3) else some ((0 : Int32), S3))))
set_option maxHeartbeats 4000000 in
set_option maxRecDepth 100000 in
theorem c_X12_canShow (l : Launch) (E : Ev) (x1 : Int32) (S : Hp) (r : (Int32 × Hp)) (h : f_X12_canShow x1 S = some r) : ho_M l yM E yX12_canShow cX12_canShow 2 (some .boolean) 2 [.ref (E.2.1 0), .int x1] S (some (.int r.1), r.2) := by
  refine ho_in (by decide) (Nat.le_of_ble_eq_true rfl) ?_
  intro p e s m args below meth c C hR ls hl
  have C : ho_I p s m args meth c RX12 cX12_canShow 2 (some .boolean) := C
  have hl : lv_has ls 2 [(0, .ref (E.2.1 0)), (1, .int x1)] := hl
  unfold f_X12_canShow at h
  refine lv_aload_n C.1 C.2.1 dX12_canShow_0 rfl (lv_at hl 0 rfl) ?_
  refine ho_getI C cf12 fM_397 hR aM_0 dX12_canShow_1 ?_
  refine lv_if_eq (tgt := 47) C.1 C.2.1 dX12_canShow_4 (by decide) (fun hc => ?_) (fun hc => ?_)
  · replace h := if_t h hc
    refine lv_iconst (v := (0 : Int32)) C.1 C.2.1 dX12_canShow_47 (by decide) ?_
    exact ho_zret C hR (Or.inl rfl) h dX12_canShow_48
  · replace h := if_f h hc
    refine lv_iload_n C.1 C.2.1 dX12_canShow_7 rfl (lv_at hl 1 rfl) ?_
    refine lv_i2l (v := (x1.toInt64)) C.1 C.2.1 dX12_canShow_8 rfl ?_
    refine lv_lconst (v := (0 : Int64)) C.1 C.2.1 dX12_canShow_9 (by decide) ?_
    refine lv_aload_n C.1 C.2.1 dX12_canShow_10 rfl (lv_at hl 0 rfl) ?_
    obtain ⟨r1, S1, h1, h⟩ := ob2_ok h
    refine hr_Vi (v := r1) (S' := S1) (As := []) (rest := [.long (0 : Int64), .long (x1.toInt64)]) C cf12 (c_X12_allTricks l E _ _ h1) yv_X12_allTricks lk_RX12_452 rfl aM_0 rfl rfl hl.1 (Nat.le_of_ble_eq_true rfl) (by decide) (by decide) hR (ho_A hR) dX12_canShow_11 (fun H locs hR => ?_)
    refine lv_i2l (v := (r1.toInt64)) C.1 C.2.1 dX12_canShow_14 rfl ?_
    obtain ⟨r2, S2, h2, h⟩ := ob2_ok h
    refine hr_Si (v := r2) (S' := S2) (As := [.long (x1.toInt64), .long (0 : Int64), .long (r1.toInt64)]) (rest := []) C (c_X12_isIn l E (x1.toInt64) (0 : Int64) (r1.toInt64) _ _ h2) ys_X12_isIn lk_RX12_304 rfl rfl hl.1 (Nat.le_of_ble_eq_true rfl) (by decide) (by decide) hR (ho_A hR) dX12_canShow_15 (fun H locs hR => ?_)
    refine lv_if_eq (tgt := 47) C.1 C.2.1 dX12_canShow_18 (by decide) (fun hc => ?_) (fun hc => ?_)
    · replace h := if_t h hc
      refine lv_iconst (v := (0 : Int32)) C.1 C.2.1 dX12_canShow_47 (by decide) ?_
      exact ho_zret C hR (Or.inl rfl) h dX12_canShow_48
    · replace h := if_f h hc
      refine lv_iload_n C.1 C.2.1 dX12_canShow_21 rfl (lv_at hl 1 rfl) ?_
      refine lv_aload_n C.1 C.2.1 dX12_canShow_22 rfl (lv_at hl 0 rfl) ?_
      obtain ⟨r3, S3, h3, h⟩ := ob2_ok h
      refine hr_Vi (v := r3) (S' := S3) (As := []) (rest := [.int x1]) C cf12 (c_X12_throughSet l E _ _ h3) yv_X12_throughSet lk_RX12_455 rfl aM_0 rfl rfl hl.1 (Nat.le_of_ble_eq_true rfl) (by decide) (by decide) hR (ho_A hR) dX12_canShow_23 (fun H locs hR => ?_)
      refine lv_iand C.1 C.2.1 dX12_canShow_26 ?_
      refine lv_if_ne (tgt := 47) C.1 C.2.1 dX12_canShow_27 (by decide) (fun hc => ?_) (fun hc => ?_)
      · replace h := if_f h hc
        refine lv_iconst (v := (0 : Int32)) C.1 C.2.1 dX12_canShow_47 (by decide) ?_
        exact ho_zret C hR (Or.inl rfl) h dX12_canShow_48
      · replace h := if_t h hc
        refine lv_iload_n C.1 C.2.1 dX12_canShow_30 rfl (lv_at hl 1 rfl) ?_
        refine lv_if_eq (tgt := 43) C.1 C.2.1 dX12_canShow_31 (by decide) (fun hc => ?_) (fun hc => ?_)
        · replace h := if_t h hc
          exact w_X12_canShow_43 C S3 h _ _ _ hR (lv_sub hl [] rfl)
        · replace h := if_f h hc
          refine lv_aload_n C.1 C.2.1 dX12_canShow_34 rfl (lv_at hl 0 rfl) ?_
          refine ho_getR (a' := 55) C cf12 fM_139 hR aM_0 rfl dX12_canShow_35 ?_
          refine lv_iconst (v := (2 : Int32)) C.1 C.2.1 dX12_canShow_38 (by decide) ?_
          obtain ⟨v4, e4, hi4, h⟩ := ldI_ok h
          refine hr_ild C hR aM_55 hi4 e4 dX12_canShow_39 ?_
          refine lv_if_le (tgt := 47) C.1 C.2.1 dX12_canShow_40 (by decide) (fun hc => ?_) (fun hc => ?_)
          · replace h := if_t h hc
            refine lv_iconst (v := (0 : Int32)) C.1 C.2.1 dX12_canShow_47 (by decide) ?_
            exact ho_zret C hR (Or.inl rfl) h dX12_canShow_48
          · replace h := if_f h hc
            exact w_X12_canShow_43 C S3 h _ _ _ hR (lv_sub hl [] rfl)
theorem dX12_bits_0 : decode cX12_bits 0 = .ok (.iconst 0, 1) := by decide +kernel
theorem dX12_bits_1 : decode cX12_bits 1 = .ok (.istore_n 1, 1) := by decide +kernel
theorem dX12_bits_2 : decode cX12_bits 2 = .ok (.iload_n 0, 1) := by decide +kernel
theorem dX12_bits_3 : decode cX12_bits 3 = .ok (.istore_n 2, 1) := by decide +kernel
theorem dX12_bits_4 : decode cX12_bits 4 = .ok (.iload_n 2, 1) := by decide +kernel
theorem dX12_bits_5 : decode cX12_bits 5 = .ok (.ifCond .eq 15, 3) := by decide +kernel
theorem dX12_bits_8 : decode cX12_bits 8 = .ok (.iinc 1 1, 3) := by decide +kernel
theorem dX12_bits_11 : decode cX12_bits 11 = .ok (.iload_n 2, 1) := by decide +kernel
theorem dX12_bits_12 : decode cX12_bits 12 = .ok (.iload_n 2, 1) := by decide +kernel
theorem dX12_bits_13 : decode cX12_bits 13 = .ok (.iconst 1, 1) := by decide +kernel
theorem dX12_bits_14 : decode cX12_bits 14 = .ok (.isub, 1) := by decide +kernel
theorem dX12_bits_15 : decode cX12_bits 15 = .ok (.iand, 1) := by decide +kernel
theorem dX12_bits_16 : decode cX12_bits 16 = .ok (.istore_n 2, 1) := by decide +kernel
theorem dX12_bits_17 : decode cX12_bits 17 = .ok (.goto (-13), 3) := by decide +kernel
theorem dX12_bits_20 : decode cX12_bits 20 = .ok (.iload_n 1, 1) := by decide +kernel
theorem dX12_bits_21 : decode cX12_bits 21 = .ok (.ireturn, 1) := by decide +kernel
def f_X12_bits_4 : Nat → Int32 → Int32 → Hp → Option (Int32 × Hp)
  | 0, _, _, _ => none
  | k + 1, x1, x2, S => if x2 = 0 then some (x1, S) else le1 (x1 + (1 : Int32)) (fun v1 => le1 (x2 &&& (x2 - (1 : Int32))) (fun v2 => f_X12_bits_4 k v1 v2 S))
set_option maxHeartbeats 4000000 in
set_option maxRecDepth 100000 in
theorem w_X12_bits_4 {p : Program} {l : Launch} {e : Env} {s : State} {m : MethodId} {args : Array Value} {below : List Frame} {meth : Method} {c : Code} {E : Ev} {S0 : Hp} {r : (Int32 × Hp)} (C : ho_I p s m args meth c RX12 cX12_bits 3 (some .int)) :
    ∀ (k : Nat) (x1 : Int32) (x2 : Int32) (S : Hp), f_X12_bits_4 k x1 x2 S = some r → ho_G p l e s m args below meth c yM E S0 0 3 (some (.int r.1), r.2) 4 [(1, .int x1), (2, .int x2)] [] S := by
  intro k
  induction k with
  | zero =>
    intro x1 x2 S h
    exact absurd (show (none : Option (Int32 × Hp)) = some r from h) (by simp)
  | succ k ih =>
    intro x1 x2 S h H locs ls hR hl
    rw [f_X12_bits_4] at h
    refine lv_iload_n C.1 C.2.1 dX12_bits_4 rfl (lv_at hl 1 rfl) ?_
    refine lv_if_eq (tgt := 20) C.1 C.2.1 dX12_bits_5 (by decide) (fun hc => ?_) (fun hc => ?_)
    · replace h := if_t h hc
      refine lv_iload_n C.1 C.2.1 dX12_bits_20 rfl (lv_at hl 0 rfl) ?_
      exact ho_iret C hR h dX12_bits_21
    · replace h := if_f h hc
      obtain ⟨v1, e1, h⟩ := le1_ok h
      refine lv_iinc (v := v1) (lv' := [(1, .int v1), (2, .int x2)]) C.1 C.2.1 dX12_bits_8 hl (k := 0) rfl (by rw [e1]; rfl) (by decide) rfl (fun ls hl => ?_)
      refine lv_iload_n C.1 C.2.1 dX12_bits_11 rfl (lv_at hl 1 rfl) ?_
      refine lv_iload_n C.1 C.2.1 dX12_bits_12 rfl (lv_at hl 1 rfl) ?_
      refine lv_iconst (v := (1 : Int32)) C.1 C.2.1 dX12_bits_13 (by decide) ?_
      refine lv_isub C.1 C.2.1 dX12_bits_14 ?_
      refine lv_iand C.1 C.2.1 dX12_bits_15 ?_
      refine lv_topi (fun v2 e2 => ?_)
      replace h := le1_at e2 h
      refine lv_istore_n (lv' := [(2, .int v2), (1, .int v1)]) C.1 C.2.1 dX12_bits_16 rfl hl (by decide) rfl (fun ls hl => ?_)
      refine lv_goto (tgt := 4) C.1 C.2.1 dX12_bits_17 (by decide) ?_
      exact ih v1 v2 S h _ _ _ hR (lv_sub hl [1, 0] rfl)
def f_X12_bits (x0 : Int32) (S : Hp) : Option (Int32 × Hp) :=
  f_X12_bits_4 5000 (0 : Int32) x0 S
set_option maxHeartbeats 4000000 in
set_option maxRecDepth 100000 in
theorem c_X12_bits (l : Launch) (E : Ev) (x0 : Int32) (S : Hp) (r : (Int32 × Hp)) (h : f_X12_bits x0 S = some r) : ho_M l yM E yX12_bits cX12_bits 3 (some .int) 0 [.int x0] S (some (.int r.1), r.2) := by
  refine ho_in (by decide) (Nat.le_of_ble_eq_true rfl) ?_
  intro p e s m args below meth c C hR ls hl
  have C : ho_I p s m args meth c RX12 cX12_bits 3 (some .int) := C
  have hl : lv_has ls 3 [(0, .int x0)] := hl
  unfold f_X12_bits at h
  refine lv_iconst (v := (0 : Int32)) C.1 C.2.1 dX12_bits_0 (by decide) ?_
  refine lv_istore_n (lv' := [(1, .int (0 : Int32)), (0, .int x0)]) C.1 C.2.1 dX12_bits_1 rfl hl (by decide) rfl (fun ls hl => ?_)
  refine lv_iload_n C.1 C.2.1 dX12_bits_2 rfl (lv_at hl 1 rfl) ?_
  refine lv_istore_n (lv' := [(2, .int x0), (1, .int (0 : Int32)), (0, .int x0)]) C.1 C.2.1 dX12_bits_3 rfl hl (by decide) rfl (fun ls hl => ?_)
  exact w_X12_bits_4 C 5000 (0 : Int32) x0 S h _ _ _ hR (lv_sub hl [1, 0] rfl)
theorem dX12_yieldsCome_0 : decode cX12_yieldsCome 0 = .ok (.iconst 0, 1) := by decide +kernel
theorem dX12_yieldsCome_1 : decode cX12_yieldsCome 1 = .ok (.istore_n 1, 1) := by decide +kernel
theorem dX12_yieldsCome_2 : decode cX12_yieldsCome 2 = .ok (.iload_n 1, 1) := by decide +kernel
theorem dX12_yieldsCome_3 : decode cX12_yieldsCome 3 = .ok (.aload_n 0, 1) := by decide +kernel
theorem dX12_yieldsCome_4 : decode cX12_yieldsCome 4 = .ok (.invokevirtual 407, 3) := by decide +kernel
theorem dX12_yieldsCome_7 : decode cX12_yieldsCome 7 = .ok (.if_icmp .ge 52, 3) := by decide +kernel
theorem dX12_yieldsCome_10 : decode cX12_yieldsCome 10 = .ok (.aload_n 0, 1) := by decide +kernel
theorem dX12_yieldsCome_11 : decode cX12_yieldsCome 11 = .ok (.getfield 139, 3) := by decide +kernel
theorem dX12_yieldsCome_14 : decode cX12_yieldsCome 14 = .ok (.iconst 3, 1) := by decide +kernel
theorem dX12_yieldsCome_15 : decode cX12_yieldsCome 15 = .ok (.iload_n 1, 1) := by decide +kernel
theorem dX12_yieldsCome_16 : decode cX12_yieldsCome 16 = .ok (.iadd, 1) := by decide +kernel
theorem dX12_yieldsCome_17 : decode cX12_yieldsCome 17 = .ok (.iaload, 1) := by decide +kernel
theorem dX12_yieldsCome_18 : decode cX12_yieldsCome 18 = .ok (.aload_n 0, 1) := by decide +kernel
theorem dX12_yieldsCome_19 : decode cX12_yieldsCome 19 = .ok (.getfield 118, 3) := by decide +kernel
theorem dX12_yieldsCome_22 : decode cX12_yieldsCome 22 = .ok (.bipush 13, 2) := by decide +kernel
theorem dX12_yieldsCome_24 : decode cX12_yieldsCome 24 = .ok (.iconst 2, 1) := by decide +kernel
theorem dX12_yieldsCome_25 : decode cX12_yieldsCome 25 = .ok (.iload_n 1, 1) := by decide +kernel
theorem dX12_yieldsCome_26 : decode cX12_yieldsCome 26 = .ok (.imul, 1) := by decide +kernel
theorem dX12_yieldsCome_27 : decode cX12_yieldsCome 27 = .ok (.iadd, 1) := by decide +kernel
theorem dX12_yieldsCome_28 : decode cX12_yieldsCome 28 = .ok (.iaload, 1) := by decide +kernel
theorem dX12_yieldsCome_29 : decode cX12_yieldsCome 29 = .ok (.iadd, 1) := by decide +kernel
theorem dX12_yieldsCome_30 : decode cX12_yieldsCome 30 = .ok (.istore_n 2, 1) := by decide +kernel
theorem dX12_yieldsCome_31 : decode cX12_yieldsCome 31 = .ok (.aload_n 0, 1) := by decide +kernel
theorem dX12_yieldsCome_32 : decode cX12_yieldsCome 32 = .ok (.getfield 139, 3) := by decide +kernel
theorem dX12_yieldsCome_35 : decode cX12_yieldsCome 35 = .ok (.iconst 3, 1) := by decide +kernel
theorem dX12_yieldsCome_36 : decode cX12_yieldsCome 36 = .ok (.iload_n 1, 1) := by decide +kernel
theorem dX12_yieldsCome_37 : decode cX12_yieldsCome 37 = .ok (.iadd, 1) := by decide +kernel
theorem dX12_yieldsCome_38 : decode cX12_yieldsCome 38 = .ok (.iload_n 2, 1) := by decide +kernel
theorem dX12_yieldsCome_39 : decode cX12_yieldsCome 39 = .ok (.sipush 9999, 3) := by decide +kernel
theorem dX12_yieldsCome_42 : decode cX12_yieldsCome 42 = .ok (.if_icmp .le 9, 3) := by decide +kernel
theorem dX12_yieldsCome_45 : decode cX12_yieldsCome 45 = .ok (.sipush 9999, 3) := by decide +kernel
theorem dX12_yieldsCome_48 : decode cX12_yieldsCome 48 = .ok (.goto 4, 3) := by decide +kernel
theorem dX12_yieldsCome_51 : decode cX12_yieldsCome 51 = .ok (.iload_n 2, 1) := by decide +kernel
theorem dX12_yieldsCome_52 : decode cX12_yieldsCome 52 = .ok (.iastore, 1) := by decide +kernel
theorem dX12_yieldsCome_53 : decode cX12_yieldsCome 53 = .ok (.iinc 1 1, 3) := by decide +kernel
theorem dX12_yieldsCome_56 : decode cX12_yieldsCome 56 = .ok (.goto (-54), 3) := by decide +kernel
theorem dX12_yieldsCome_59 : decode cX12_yieldsCome 59 = .ok (.return_, 1) := by decide +kernel
def f_X12_yieldsCome_52 (K2 : Int32 → Hp → Option Hp) (x1 : Int32) (z1 : Int32) (z2 : Int32) (S : Hp) : Option Hp :=
  stI S 55 117 z1 z2 (fun S1 => le1 (x1 + (1 : Int32)) (fun v2 => K2 v2 S1))
set_option maxHeartbeats 4000000 in
set_option maxRecDepth 100000 in
theorem w_X12_yieldsCome_52 {p : Program} {l : Launch} {e : Env} {s : State} {m : MethodId} {args : Array Value} {below : List Frame} {meth : Method} {c : Code} {E : Ev} {S0 : Hp} {r : Hp} (C : ho_I p s m args meth c RX12 cX12_yieldsCome 3 none) (K2 : Int32 → Hp → Option Hp) (hK2 : ∀ (y1 : Int32) (S : Hp), K2 y1 S = some r → ho_G p l e s m args below meth c yM E S0 1 3 (none, r) 2 [(0, .ref (E.2.1 0)), (1, .int y1)] [] S) :
    ∀ (x1 : Int32) (z1 : Int32) (z2 : Int32) (S : Hp), f_X12_yieldsCome_52 K2 x1 z1 z2 S = some r → ho_G p l e s m args below meth c yM E S0 1 3 (none, r) 52 [(0, .ref (E.2.1 0)), (1, .int x1)] [.int z2, .int z1, .ref (E.2.1 55)] S := by
  intro x1 z1 z2 S h H locs ls hR hl
  unfold f_X12_yieldsCome_52 at h
  obtain ⟨S1, e1, hi1, h⟩ := stI_ok h
  refine hr_ist C hR aM_55 hi1 e1 dX12_yieldsCome_52 (fun H locs hR => ?_)
  obtain ⟨v2, e2, h⟩ := le1_ok h
  refine lv_iinc (v := v2) (lv' := [(1, .int v2), (0, .ref (E.2.1 0))]) C.1 C.2.1 dX12_yieldsCome_53 hl (k := 1) rfl (by rw [e2]; rfl) (by decide) rfl (fun ls hl => ?_)
  refine lv_goto (tgt := 2) C.1 C.2.1 dX12_yieldsCome_56 (by decide) ?_
  exact hK2 v2 S1 h _ _ _ hR (lv_sub hl [1, 0] rfl)
def f_X12_yieldsCome_2 : Nat → Int32 → Hp → Option Hp
  | 0, _, _ => none
  | k + 1, x1, S => ob2 (f_X12_provinceMany S) (fun r1 S1 => if r1 ≤ x1 then some S1 else ldI S1 55 117 ((3 : Int32) + x1) (fun v2 => ldI S1 44 24 ((13 : Int32) + ((2 : Int32) * x1)) (fun v3 => le1 (v2 + v3) (fun v4 => if v4 ≤ (9999 : Int32) then f_X12_yieldsCome_52 (f_X12_yieldsCome_2 k) x1 ((3 : Int32) + x1) v4 S1 else f_X12_yieldsCome_52 (f_X12_yieldsCome_2 k) x1 ((3 : Int32) + x1) (9999 : Int32) S1))))
set_option maxHeartbeats 4000000 in
set_option maxRecDepth 100000 in
theorem w_X12_yieldsCome_2 {p : Program} {l : Launch} {e : Env} {s : State} {m : MethodId} {args : Array Value} {below : List Frame} {meth : Method} {c : Code} {E : Ev} {S0 : Hp} {r : Hp} (C : ho_I p s m args meth c RX12 cX12_yieldsCome 3 none) :
    ∀ (k : Nat) (x1 : Int32) (S : Hp), f_X12_yieldsCome_2 k x1 S = some r → ho_G p l e s m args below meth c yM E S0 1 3 (none, r) 2 [(0, .ref (E.2.1 0)), (1, .int x1)] [] S := by
  intro k
  induction k with
  | zero =>
    intro x1 S h
    exact absurd (show (none : Option Hp) = some r from h) (by simp)
  | succ k ih =>
    intro x1 S h H locs ls hR hl
    rw [f_X12_yieldsCome_2] at h
    refine lv_iload_n C.1 C.2.1 dX12_yieldsCome_2 rfl (lv_at hl 1 rfl) ?_
    refine lv_aload_n C.1 C.2.1 dX12_yieldsCome_3 rfl (lv_at hl 0 rfl) ?_
    obtain ⟨r1, S1, h1, h⟩ := ob2_ok h
    refine hr_Vi (v := r1) (S' := S1) (As := []) (rest := [.int x1]) C cf12 (c_X12_provinceMany l E _ _ h1) yv_X12_provinceMany lk_RX12_407 rfl aM_0 rfl rfl hl.1 (Nat.le_of_ble_eq_true rfl) (by decide) (by decide) hR (ho_A hR) dX12_yieldsCome_4 (fun H locs hR => ?_)
    refine lv_icmp_ge (tgt := 59) C.1 C.2.1 dX12_yieldsCome_7 (by decide) (fun hc => ?_) (fun hc => ?_)
    · replace h := if_t h hc
      exact ho_vret C hR h dX12_yieldsCome_59
    · replace h := if_f h hc
      refine lv_aload_n C.1 C.2.1 dX12_yieldsCome_10 rfl (lv_at hl 0 rfl) ?_
      refine ho_getR (a' := 55) C cf12 fM_139 hR aM_0 rfl dX12_yieldsCome_11 ?_
      refine lv_iconst (v := (3 : Int32)) C.1 C.2.1 dX12_yieldsCome_14 (by decide) ?_
      refine lv_iload_n C.1 C.2.1 dX12_yieldsCome_15 rfl (lv_at hl 1 rfl) ?_
      refine lv_iadd C.1 C.2.1 dX12_yieldsCome_16 ?_
      obtain ⟨v2, e2, hi2, h⟩ := ldI_ok h
      refine hr_ild C hR aM_55 hi2 e2 dX12_yieldsCome_17 ?_
      refine lv_aload_n C.1 C.2.1 dX12_yieldsCome_18 rfl (lv_at hl 0 rfl) ?_
      refine ho_getR (a' := 44) C cf12 fM_118 hR aM_0 rfl dX12_yieldsCome_19 ?_
      refine lv_bipush (v := (13 : Int32)) C.1 C.2.1 dX12_yieldsCome_22 (by decide) ?_
      refine lv_iconst (v := (2 : Int32)) C.1 C.2.1 dX12_yieldsCome_24 (by decide) ?_
      refine lv_iload_n C.1 C.2.1 dX12_yieldsCome_25 rfl (lv_at hl 1 rfl) ?_
      refine lv_imul C.1 C.2.1 dX12_yieldsCome_26 ?_
      refine lv_iadd C.1 C.2.1 dX12_yieldsCome_27 ?_
      obtain ⟨v3, e3, hi3, h⟩ := ldI_ok h
      refine hr_ild C hR aM_44 hi3 e3 dX12_yieldsCome_28 ?_
      refine lv_iadd C.1 C.2.1 dX12_yieldsCome_29 ?_
      refine lv_topi (fun v4 e4 => ?_)
      replace h := le1_at e4 h
      refine lv_istore_n (lv' := [(2, .int v4), (0, .ref (E.2.1 0)), (1, .int x1)]) C.1 C.2.1 dX12_yieldsCome_30 rfl hl (by decide) rfl (fun ls hl => ?_)
      refine lv_aload_n C.1 C.2.1 dX12_yieldsCome_31 rfl (lv_at hl 1 rfl) ?_
      refine ho_getR (a' := 55) C cf12 fM_139 hR aM_0 rfl dX12_yieldsCome_32 ?_
      refine lv_iconst (v := (3 : Int32)) C.1 C.2.1 dX12_yieldsCome_35 (by decide) ?_
      refine lv_iload_n C.1 C.2.1 dX12_yieldsCome_36 rfl (lv_at hl 2 rfl) ?_
      refine lv_iadd C.1 C.2.1 dX12_yieldsCome_37 ?_
      refine lv_iload_n C.1 C.2.1 dX12_yieldsCome_38 rfl (lv_at hl 0 rfl) ?_
      refine lv_sipush (v := (9999 : Int32)) C.1 C.2.1 dX12_yieldsCome_39 (by decide) ?_
      refine lv_icmp_le (tgt := 51) C.1 C.2.1 dX12_yieldsCome_42 (by decide) (fun hc => ?_) (fun hc => ?_)
      · replace h := if_t h hc
        refine lv_iload_n C.1 C.2.1 dX12_yieldsCome_51 rfl (lv_at hl 0 rfl) ?_
        exact w_X12_yieldsCome_52 C (f_X12_yieldsCome_2 k) ih x1 ((3 : Int32) + x1) v4 S1 h _ _ _ hR (lv_sub hl [1, 2] rfl)
      · replace h := if_f h hc
        refine lv_sipush (v := (9999 : Int32)) C.1 C.2.1 dX12_yieldsCome_45 (by decide) ?_
        refine lv_goto (tgt := 52) C.1 C.2.1 dX12_yieldsCome_48 (by decide) ?_
        exact w_X12_yieldsCome_52 C (f_X12_yieldsCome_2 k) ih x1 ((3 : Int32) + x1) (9999 : Int32) S1 h _ _ _ hR (lv_sub hl [1, 2] rfl)
def f_X12_yieldsCome (S : Hp) : Option Hp :=
  f_X12_yieldsCome_2 5000 (0 : Int32) S
set_option maxHeartbeats 4000000 in
set_option maxRecDepth 100000 in
theorem c_X12_yieldsCome (l : Launch) (E : Ev) (S : Hp) (r : Hp) (h : f_X12_yieldsCome S = some r) : ho_M l yM E yX12_yieldsCome cX12_yieldsCome 3 none 1 [.ref (E.2.1 0)] S (none, r) := by
  refine ho_in (by decide) (Nat.le_of_ble_eq_true rfl) ?_
  intro p e s m args below meth c C hR ls hl
  have C : ho_I p s m args meth c RX12 cX12_yieldsCome 3 none := C
  have hl : lv_has ls 3 [(0, .ref (E.2.1 0))] := hl
  unfold f_X12_yieldsCome at h
  refine lv_iconst (v := (0 : Int32)) C.1 C.2.1 dX12_yieldsCome_0 (by decide) ?_
  refine lv_istore_n (lv' := [(1, .int (0 : Int32)), (0, .ref (E.2.1 0))]) C.1 C.2.1 dX12_yieldsCome_1 rfl hl (by decide) rfl (fun ls hl => ?_)
  exact w_X12_yieldsCome_2 C 5000 (0 : Int32) S h _ _ _ hR (lv_sub hl [1, 0] rfl)
theorem dX12_yieldsGoBack_0 : decode cX12_yieldsGoBack 0 = .ok (.iconst 0, 1) := by decide +kernel
theorem dX12_yieldsGoBack_1 : decode cX12_yieldsGoBack 1 = .ok (.istore_n 1, 1) := by decide +kernel
theorem dX12_yieldsGoBack_2 : decode cX12_yieldsGoBack 2 = .ok (.iload_n 1, 1) := by decide +kernel
theorem dX12_yieldsGoBack_3 : decode cX12_yieldsGoBack 3 = .ok (.aload_n 0, 1) := by decide +kernel
theorem dX12_yieldsGoBack_4 : decode cX12_yieldsGoBack 4 = .ok (.invokevirtual 407, 3) := by decide +kernel
theorem dX12_yieldsGoBack_7 : decode cX12_yieldsGoBack 7 = .ok (.if_icmp .ge 23, 3) := by decide +kernel
theorem dX12_yieldsGoBack_10 : decode cX12_yieldsGoBack 10 = .ok (.aload_n 0, 1) := by decide +kernel
theorem dX12_yieldsGoBack_11 : decode cX12_yieldsGoBack 11 = .ok (.getfield 139, 3) := by decide +kernel
theorem dX12_yieldsGoBack_14 : decode cX12_yieldsGoBack 14 = .ok (.iconst 3, 1) := by decide +kernel
theorem dX12_yieldsGoBack_15 : decode cX12_yieldsGoBack 15 = .ok (.iload_n 1, 1) := by decide +kernel
theorem dX12_yieldsGoBack_16 : decode cX12_yieldsGoBack 16 = .ok (.iadd, 1) := by decide +kernel
theorem dX12_yieldsGoBack_17 : decode cX12_yieldsGoBack 17 = .ok (.aload_n 0, 1) := by decide +kernel
theorem dX12_yieldsGoBack_18 : decode cX12_yieldsGoBack 18 = .ok (.getfield 154, 3) := by decide +kernel
theorem dX12_yieldsGoBack_21 : decode cX12_yieldsGoBack 21 = .ok (.iload_n 1, 1) := by decide +kernel
theorem dX12_yieldsGoBack_22 : decode cX12_yieldsGoBack 22 = .ok (.iaload, 1) := by decide +kernel
theorem dX12_yieldsGoBack_23 : decode cX12_yieldsGoBack 23 = .ok (.iastore, 1) := by decide +kernel
theorem dX12_yieldsGoBack_24 : decode cX12_yieldsGoBack 24 = .ok (.iinc 1 1, 3) := by decide +kernel
theorem dX12_yieldsGoBack_27 : decode cX12_yieldsGoBack 27 = .ok (.goto (-25), 3) := by decide +kernel
theorem dX12_yieldsGoBack_30 : decode cX12_yieldsGoBack 30 = .ok (.return_, 1) := by decide +kernel
def f_X12_yieldsGoBack_2 : Nat → Int32 → Hp → Option Hp
  | 0, _, _ => none
  | k + 1, x1, S => ob2 (f_X12_provinceMany S) (fun r1 S1 => if r1 ≤ x1 then some S1 else ldI S1 62 6 x1 (fun v2 => stI S1 55 117 ((3 : Int32) + x1) v2 (fun S3 => le1 (x1 + (1 : Int32)) (fun v4 => f_X12_yieldsGoBack_2 k v4 S3))))
set_option maxHeartbeats 4000000 in
set_option maxRecDepth 100000 in
theorem w_X12_yieldsGoBack_2 {p : Program} {l : Launch} {e : Env} {s : State} {m : MethodId} {args : Array Value} {below : List Frame} {meth : Method} {c : Code} {E : Ev} {S0 : Hp} {r : Hp} (C : ho_I p s m args meth c RX12 cX12_yieldsGoBack 2 none) :
    ∀ (k : Nat) (x1 : Int32) (S : Hp), f_X12_yieldsGoBack_2 k x1 S = some r → ho_G p l e s m args below meth c yM E S0 1 2 (none, r) 2 [(0, .ref (E.2.1 0)), (1, .int x1)] [] S := by
  intro k
  induction k with
  | zero =>
    intro x1 S h
    exact absurd (show (none : Option Hp) = some r from h) (by simp)
  | succ k ih =>
    intro x1 S h H locs ls hR hl
    rw [f_X12_yieldsGoBack_2] at h
    refine lv_iload_n C.1 C.2.1 dX12_yieldsGoBack_2 rfl (lv_at hl 1 rfl) ?_
    refine lv_aload_n C.1 C.2.1 dX12_yieldsGoBack_3 rfl (lv_at hl 0 rfl) ?_
    obtain ⟨r1, S1, h1, h⟩ := ob2_ok h
    refine hr_Vi (v := r1) (S' := S1) (As := []) (rest := [.int x1]) C cf12 (c_X12_provinceMany l E _ _ h1) yv_X12_provinceMany lk_RX12_407 rfl aM_0 rfl rfl hl.1 (Nat.le_of_ble_eq_true rfl) (by decide) (by decide) hR (ho_A hR) dX12_yieldsGoBack_4 (fun H locs hR => ?_)
    refine lv_icmp_ge (tgt := 30) C.1 C.2.1 dX12_yieldsGoBack_7 (by decide) (fun hc => ?_) (fun hc => ?_)
    · replace h := if_t h hc
      exact ho_vret C hR h dX12_yieldsGoBack_30
    · replace h := if_f h hc
      refine lv_aload_n C.1 C.2.1 dX12_yieldsGoBack_10 rfl (lv_at hl 0 rfl) ?_
      refine ho_getR (a' := 55) C cf12 fM_139 hR aM_0 rfl dX12_yieldsGoBack_11 ?_
      refine lv_iconst (v := (3 : Int32)) C.1 C.2.1 dX12_yieldsGoBack_14 (by decide) ?_
      refine lv_iload_n C.1 C.2.1 dX12_yieldsGoBack_15 rfl (lv_at hl 1 rfl) ?_
      refine lv_iadd C.1 C.2.1 dX12_yieldsGoBack_16 ?_
      refine lv_aload_n C.1 C.2.1 dX12_yieldsGoBack_17 rfl (lv_at hl 0 rfl) ?_
      refine ho_getR (a' := 62) C cf12 fM_154 hR aM_0 rfl dX12_yieldsGoBack_18 ?_
      refine lv_iload_n C.1 C.2.1 dX12_yieldsGoBack_21 rfl (lv_at hl 1 rfl) ?_
      obtain ⟨v2, e2, hi2, h⟩ := ldI_ok h
      refine hr_ild C hR aM_62 hi2 e2 dX12_yieldsGoBack_22 ?_
      obtain ⟨S3, e3, hi3, h⟩ := stI_ok h
      refine hr_ist C hR aM_55 hi3 e3 dX12_yieldsGoBack_23 (fun H locs hR => ?_)
      obtain ⟨v4, e4, h⟩ := le1_ok h
      refine lv_iinc (v := v4) (lv' := [(1, .int v4), (0, .ref (E.2.1 0))]) C.1 C.2.1 dX12_yieldsGoBack_24 hl (k := 1) rfl (by rw [e4]; rfl) (by decide) rfl (fun ls hl => ?_)
      refine lv_goto (tgt := 2) C.1 C.2.1 dX12_yieldsGoBack_27 (by decide) ?_
      exact ih v4 S3 h _ _ _ hR (lv_sub hl [1, 0] rfl)
def f_X12_yieldsGoBack (S : Hp) : Option Hp :=
  f_X12_yieldsGoBack_2 5000 (0 : Int32) S
set_option maxHeartbeats 4000000 in
set_option maxRecDepth 100000 in
theorem c_X12_yieldsGoBack (l : Launch) (E : Ev) (S : Hp) (r : Hp) (h : f_X12_yieldsGoBack S = some r) : ho_M l yM E yX12_yieldsGoBack cX12_yieldsGoBack 2 none 1 [.ref (E.2.1 0)] S (none, r) := by
  refine ho_in (by decide) (Nat.le_of_ble_eq_true rfl) ?_
  intro p e s m args below meth c C hR ls hl
  have C : ho_I p s m args meth c RX12 cX12_yieldsGoBack 2 none := C
  have hl : lv_has ls 2 [(0, .ref (E.2.1 0))] := hl
  unfold f_X12_yieldsGoBack at h
  refine lv_iconst (v := (0 : Int32)) C.1 C.2.1 dX12_yieldsGoBack_0 (by decide) ?_
  refine lv_istore_n (lv' := [(1, .int (0 : Int32)), (0, .ref (E.2.1 0))]) C.1 C.2.1 dX12_yieldsGoBack_1 rfl hl (by decide) rfl (fun ls hl => ?_)
  exact w_X12_yieldsGoBack_2 C 5000 (0 : Int32) S h _ _ _ hR (lv_sub hl [1, 0] rfl)
theorem dX12_yieldsComeNow_0 : decode cX12_yieldsComeNow 0 = .ok (.iconst 0, 1) := by decide +kernel
theorem dX12_yieldsComeNow_1 : decode cX12_yieldsComeNow 1 = .ok (.istore_n 1, 1) := by decide +kernel
theorem dX12_yieldsComeNow_2 : decode cX12_yieldsComeNow 2 = .ok (.iload_n 1, 1) := by decide +kernel
theorem dX12_yieldsComeNow_3 : decode cX12_yieldsComeNow 3 = .ok (.aload_n 0, 1) := by decide +kernel
theorem dX12_yieldsComeNow_4 : decode cX12_yieldsComeNow 4 = .ok (.invokevirtual 407, 3) := by decide +kernel
theorem dX12_yieldsComeNow_7 : decode cX12_yieldsComeNow 7 = .ok (.if_icmp .ge 23, 3) := by decide +kernel
theorem dX12_yieldsComeNow_10 : decode cX12_yieldsComeNow 10 = .ok (.aload_n 0, 1) := by decide +kernel
theorem dX12_yieldsComeNow_11 : decode cX12_yieldsComeNow 11 = .ok (.getfield 154, 3) := by decide +kernel
theorem dX12_yieldsComeNow_14 : decode cX12_yieldsComeNow 14 = .ok (.iload_n 1, 1) := by decide +kernel
theorem dX12_yieldsComeNow_15 : decode cX12_yieldsComeNow 15 = .ok (.aload_n 0, 1) := by decide +kernel
theorem dX12_yieldsComeNow_16 : decode cX12_yieldsComeNow 16 = .ok (.getfield 139, 3) := by decide +kernel
theorem dX12_yieldsComeNow_19 : decode cX12_yieldsComeNow 19 = .ok (.iconst 3, 1) := by decide +kernel
theorem dX12_yieldsComeNow_20 : decode cX12_yieldsComeNow 20 = .ok (.iload_n 1, 1) := by decide +kernel
theorem dX12_yieldsComeNow_21 : decode cX12_yieldsComeNow 21 = .ok (.iadd, 1) := by decide +kernel
theorem dX12_yieldsComeNow_22 : decode cX12_yieldsComeNow 22 = .ok (.iaload, 1) := by decide +kernel
theorem dX12_yieldsComeNow_23 : decode cX12_yieldsComeNow 23 = .ok (.iastore, 1) := by decide +kernel
theorem dX12_yieldsComeNow_24 : decode cX12_yieldsComeNow 24 = .ok (.iinc 1 1, 3) := by decide +kernel
theorem dX12_yieldsComeNow_27 : decode cX12_yieldsComeNow 27 = .ok (.goto (-25), 3) := by decide +kernel
theorem dX12_yieldsComeNow_30 : decode cX12_yieldsComeNow 30 = .ok (.aload_n 0, 1) := by decide +kernel
theorem dX12_yieldsComeNow_31 : decode cX12_yieldsComeNow 31 = .ok (.invokevirtual 458, 3) := by decide +kernel
theorem dX12_yieldsComeNow_34 : decode cX12_yieldsComeNow 34 = .ok (.return_, 1) := by decide +kernel
def f_X12_yieldsComeNow_2 : Nat → Int32 → Hp → Option Hp
  | 0, _, _ => none
  | k + 1, x1, S => ob2 (f_X12_provinceMany S) (fun r1 S1 => if r1 ≤ x1 then ob (f_X12_yieldsCome S1) (fun S2 => some S2) else ldI S1 55 117 ((3 : Int32) + x1) (fun v3 => stI S1 62 6 x1 v3 (fun S4 => le1 (x1 + (1 : Int32)) (fun v5 => f_X12_yieldsComeNow_2 k v5 S4))))
set_option maxHeartbeats 4000000 in
set_option maxRecDepth 100000 in
theorem w_X12_yieldsComeNow_2 {p : Program} {l : Launch} {e : Env} {s : State} {m : MethodId} {args : Array Value} {below : List Frame} {meth : Method} {c : Code} {E : Ev} {S0 : Hp} {r : Hp} (C : ho_I p s m args meth c RX12 cX12_yieldsComeNow 2 none) :
    ∀ (k : Nat) (x1 : Int32) (S : Hp), f_X12_yieldsComeNow_2 k x1 S = some r → ho_G p l e s m args below meth c yM E S0 2 2 (none, r) 2 [(0, .ref (E.2.1 0)), (1, .int x1)] [] S := by
  intro k
  induction k with
  | zero =>
    intro x1 S h
    exact absurd (show (none : Option Hp) = some r from h) (by simp)
  | succ k ih =>
    intro x1 S h H locs ls hR hl
    rw [f_X12_yieldsComeNow_2] at h
    refine lv_iload_n C.1 C.2.1 dX12_yieldsComeNow_2 rfl (lv_at hl 1 rfl) ?_
    refine lv_aload_n C.1 C.2.1 dX12_yieldsComeNow_3 rfl (lv_at hl 0 rfl) ?_
    obtain ⟨r1, S1, h1, h⟩ := ob2_ok h
    refine hr_Vi (v := r1) (S' := S1) (As := []) (rest := [.int x1]) C cf12 (c_X12_provinceMany l E _ _ h1) yv_X12_provinceMany lk_RX12_407 rfl aM_0 rfl rfl hl.1 (Nat.le_of_ble_eq_true rfl) (by decide) (by decide) hR (ho_A hR) dX12_yieldsComeNow_4 (fun H locs hR => ?_)
    refine lv_icmp_ge (tgt := 30) C.1 C.2.1 dX12_yieldsComeNow_7 (by decide) (fun hc => ?_) (fun hc => ?_)
    · replace h := if_t h hc
      refine lv_aload_n C.1 C.2.1 dX12_yieldsComeNow_30 rfl (lv_at hl 0 rfl) ?_
      obtain ⟨S2, h2, h⟩ := ob_ok h
      refine hr_Vv (S' := S2) (As := []) (rest := []) C cf12 (c_X12_yieldsCome l E _ _ h2) yv_X12_yieldsCome lk_RX12_458 rfl aM_0 rfl rfl hl.1 (Nat.le_of_ble_eq_true rfl) (by decide) (by decide) hR (ho_A hR) dX12_yieldsComeNow_31 (fun H locs hR => ?_)
      exact ho_vret C hR h dX12_yieldsComeNow_34
    · replace h := if_f h hc
      refine lv_aload_n C.1 C.2.1 dX12_yieldsComeNow_10 rfl (lv_at hl 0 rfl) ?_
      refine ho_getR (a' := 62) C cf12 fM_154 hR aM_0 rfl dX12_yieldsComeNow_11 ?_
      refine lv_iload_n C.1 C.2.1 dX12_yieldsComeNow_14 rfl (lv_at hl 1 rfl) ?_
      refine lv_aload_n C.1 C.2.1 dX12_yieldsComeNow_15 rfl (lv_at hl 0 rfl) ?_
      refine ho_getR (a' := 55) C cf12 fM_139 hR aM_0 rfl dX12_yieldsComeNow_16 ?_
      refine lv_iconst (v := (3 : Int32)) C.1 C.2.1 dX12_yieldsComeNow_19 (by decide) ?_
      refine lv_iload_n C.1 C.2.1 dX12_yieldsComeNow_20 rfl (lv_at hl 1 rfl) ?_
      refine lv_iadd C.1 C.2.1 dX12_yieldsComeNow_21 ?_
      obtain ⟨v3, e3, hi3, h⟩ := ldI_ok h
      refine hr_ild C hR aM_55 hi3 e3 dX12_yieldsComeNow_22 ?_
      obtain ⟨S4, e4, hi4, h⟩ := stI_ok h
      refine hr_ist C hR aM_62 hi4 e4 dX12_yieldsComeNow_23 (fun H locs hR => ?_)
      obtain ⟨v5, e5, h⟩ := le1_ok h
      refine lv_iinc (v := v5) (lv' := [(1, .int v5), (0, .ref (E.2.1 0))]) C.1 C.2.1 dX12_yieldsComeNow_24 hl (k := 1) rfl (by rw [e5]; rfl) (by decide) rfl (fun ls hl => ?_)
      refine lv_goto (tgt := 2) C.1 C.2.1 dX12_yieldsComeNow_27 (by decide) ?_
      exact ih v5 S4 h _ _ _ hR (lv_sub hl [1, 0] rfl)
def f_X12_yieldsComeNow (S : Hp) : Option Hp :=
  f_X12_yieldsComeNow_2 5000 (0 : Int32) S
set_option maxHeartbeats 4000000 in
set_option maxRecDepth 100000 in
theorem c_X12_yieldsComeNow (l : Launch) (E : Ev) (S : Hp) (r : Hp) (h : f_X12_yieldsComeNow S = some r) : ho_M l yM E yX12_yieldsComeNow cX12_yieldsComeNow 2 none 2 [.ref (E.2.1 0)] S (none, r) := by
  refine ho_in (by decide) (Nat.le_of_ble_eq_true rfl) ?_
  intro p e s m args below meth c C hR ls hl
  have C : ho_I p s m args meth c RX12 cX12_yieldsComeNow 2 none := C
  have hl : lv_has ls 2 [(0, .ref (E.2.1 0))] := hl
  unfold f_X12_yieldsComeNow at h
  refine lv_iconst (v := (0 : Int32)) C.1 C.2.1 dX12_yieldsComeNow_0 (by decide) ?_
  refine lv_istore_n (lv' := [(1, .int (0 : Int32)), (0, .ref (E.2.1 0))]) C.1 C.2.1 dX12_yieldsComeNow_1 rfl hl (by decide) rfl (fun ls hl => ?_)
  exact w_X12_yieldsComeNow_2 C 5000 (0 : Int32) S h _ _ _ hR (lv_sub hl [1, 0] rfl)
theorem dX12_appearsBy_0 : decode cX12_appearsBy 0 = .ok (.iconst 0, 1) := by decide +kernel
theorem dX12_appearsBy_1 : decode cX12_appearsBy 1 = .ok (.istore_n 2, 1) := by decide +kernel
theorem dX12_appearsBy_2 : decode cX12_appearsBy 2 = .ok (.iconst 0, 1) := by decide +kernel
theorem dX12_appearsBy_3 : decode cX12_appearsBy 3 = .ok (.istore_n 3, 1) := by decide +kernel
theorem dX12_appearsBy_4 : decode cX12_appearsBy 4 = .ok (.iload_n 3, 1) := by decide +kernel
theorem dX12_appearsBy_5 : decode cX12_appearsBy 5 = .ok (.aload_n 0, 1) := by decide +kernel
theorem dX12_appearsBy_6 : decode cX12_appearsBy 6 = .ok (.invokevirtual 407, 3) := by decide +kernel
theorem dX12_appearsBy_9 : decode cX12_appearsBy 9 = .ok (.if_icmp .ge 23, 3) := by decide +kernel
theorem dX12_appearsBy_12 : decode cX12_appearsBy 12 = .ok (.aload_n 0, 1) := by decide +kernel
theorem dX12_appearsBy_13 : decode cX12_appearsBy 13 = .ok (.getfield 148, 3) := by decide +kernel
theorem dX12_appearsBy_16 : decode cX12_appearsBy 16 = .ok (.iload_n 3, 1) := by decide +kernel
theorem dX12_appearsBy_17 : decode cX12_appearsBy 17 = .ok (.aload_n 0, 1) := by decide +kernel
theorem dX12_appearsBy_18 : decode cX12_appearsBy 18 = .ok (.getfield 139, 3) := by decide +kernel
theorem dX12_appearsBy_21 : decode cX12_appearsBy 21 = .ok (.iconst 3, 1) := by decide +kernel
theorem dX12_appearsBy_22 : decode cX12_appearsBy 22 = .ok (.iload_n 3, 1) := by decide +kernel
theorem dX12_appearsBy_23 : decode cX12_appearsBy 23 = .ok (.iadd, 1) := by decide +kernel
theorem dX12_appearsBy_24 : decode cX12_appearsBy 24 = .ok (.iaload, 1) := by decide +kernel
theorem dX12_appearsBy_25 : decode cX12_appearsBy 25 = .ok (.iastore, 1) := by decide +kernel
theorem dX12_appearsBy_26 : decode cX12_appearsBy 26 = .ok (.iinc 3 1, 3) := by decide +kernel
theorem dX12_appearsBy_29 : decode cX12_appearsBy 29 = .ok (.goto (-25), 3) := by decide +kernel
theorem dX12_appearsBy_32 : decode cX12_appearsBy 32 = .ok (.iconst 0, 1) := by decide +kernel
theorem dX12_appearsBy_33 : decode cX12_appearsBy 33 = .ok (.istore_n 3, 1) := by decide +kernel
theorem dX12_appearsBy_34 : decode cX12_appearsBy 34 = .ok (.iload_n 3, 1) := by decide +kernel
theorem dX12_appearsBy_35 : decode cX12_appearsBy 35 = .ok (.aload_n 0, 1) := by decide +kernel
theorem dX12_appearsBy_36 : decode cX12_appearsBy 36 = .ok (.invokevirtual 410, 3) := by decide +kernel
theorem dX12_appearsBy_39 : decode cX12_appearsBy 39 = .ok (.if_icmp .ge 94, 3) := by decide +kernel
theorem dX12_appearsBy_42 : decode cX12_appearsBy 42 = .ok (.iload_n 1, 1) := by decide +kernel
theorem dX12_appearsBy_43 : decode cX12_appearsBy 43 = .ok (.iload_n 3, 1) := by decide +kernel
theorem dX12_appearsBy_44 : decode cX12_appearsBy 44 = .ok (.ishr, 1) := by decide +kernel
theorem dX12_appearsBy_45 : decode cX12_appearsBy 45 = .ok (.iconst 1, 1) := by decide +kernel
theorem dX12_appearsBy_46 : decode cX12_appearsBy 46 = .ok (.iand, 1) := by decide +kernel
theorem dX12_appearsBy_47 : decode cX12_appearsBy 47 = .ok (.ifCond .ne 6, 3) := by decide +kernel
theorem dX12_appearsBy_50 : decode cX12_appearsBy 50 = .ok (.goto 77, 3) := by decide +kernel
theorem dX12_appearsBy_53 : decode cX12_appearsBy 53 = .ok (.aload_n 0, 1) := by decide +kernel
theorem dX12_appearsBy_54 : decode cX12_appearsBy 54 = .ok (.getfield 121, 3) := by decide +kernel
theorem dX12_appearsBy_57 : decode cX12_appearsBy 57 = .ok (.bipush 19, 2) := by decide +kernel
theorem dX12_appearsBy_59 : decode cX12_appearsBy 59 = .ok (.iconst 3, 1) := by decide +kernel
theorem dX12_appearsBy_60 : decode cX12_appearsBy 60 = .ok (.iload_n 3, 1) := by decide +kernel
theorem dX12_appearsBy_61 : decode cX12_appearsBy 61 = .ok (.imul, 1) := by decide +kernel
theorem dX12_appearsBy_62 : decode cX12_appearsBy 62 = .ok (.iadd, 1) := by decide +kernel
theorem dX12_appearsBy_63 : decode cX12_appearsBy 63 = .ok (.iaload, 1) := by decide +kernel
theorem dX12_appearsBy_64 : decode cX12_appearsBy 64 = .ok (.istore 4, 2) := by decide +kernel
theorem dX12_appearsBy_66 : decode cX12_appearsBy 66 = .ok (.aload_n 0, 1) := by decide +kernel
theorem dX12_appearsBy_67 : decode cX12_appearsBy 67 = .ok (.getfield 121, 3) := by decide +kernel
theorem dX12_appearsBy_70 : decode cX12_appearsBy 70 = .ok (.bipush 18, 2) := by decide +kernel
theorem dX12_appearsBy_72 : decode cX12_appearsBy 72 = .ok (.iconst 3, 1) := by decide +kernel
theorem dX12_appearsBy_73 : decode cX12_appearsBy 73 = .ok (.iload_n 3, 1) := by decide +kernel
theorem dX12_appearsBy_74 : decode cX12_appearsBy 74 = .ok (.imul, 1) := by decide +kernel
theorem dX12_appearsBy_75 : decode cX12_appearsBy 75 = .ok (.iadd, 1) := by decide +kernel
theorem dX12_appearsBy_76 : decode cX12_appearsBy 76 = .ok (.iaload, 1) := by decide +kernel
theorem dX12_appearsBy_77 : decode cX12_appearsBy 77 = .ok (.aload_n 0, 1) := by decide +kernel
theorem dX12_appearsBy_78 : decode cX12_appearsBy 78 = .ok (.getfield 148, 3) := by decide +kernel
theorem dX12_appearsBy_81 : decode cX12_appearsBy 81 = .ok (.iload 4, 2) := by decide +kernel
theorem dX12_appearsBy_83 : decode cX12_appearsBy 83 = .ok (.iaload, 1) := by decide +kernel
theorem dX12_appearsBy_84 : decode cX12_appearsBy 84 = .ok (.if_icmp .le 13, 3) := by decide +kernel
theorem dX12_appearsBy_87 : decode cX12_appearsBy 87 = .ok (.aload_n 0, 1) := by decide +kernel
theorem dX12_appearsBy_88 : decode cX12_appearsBy 88 = .ok (.getfield 148, 3) := by decide +kernel
theorem dX12_appearsBy_91 : decode cX12_appearsBy 91 = .ok (.iload 4, 2) := by decide +kernel
theorem dX12_appearsBy_93 : decode cX12_appearsBy 93 = .ok (.iaload, 1) := by decide +kernel
theorem dX12_appearsBy_94 : decode cX12_appearsBy 94 = .ok (.goto 14, 3) := by decide +kernel
theorem dX12_appearsBy_97 : decode cX12_appearsBy 97 = .ok (.aload_n 0, 1) := by decide +kernel
theorem dX12_appearsBy_98 : decode cX12_appearsBy 98 = .ok (.getfield 121, 3) := by decide +kernel
theorem dX12_appearsBy_101 : decode cX12_appearsBy 101 = .ok (.bipush 18, 2) := by decide +kernel
theorem dX12_appearsBy_103 : decode cX12_appearsBy 103 = .ok (.iconst 3, 1) := by decide +kernel
theorem dX12_appearsBy_104 : decode cX12_appearsBy 104 = .ok (.iload_n 3, 1) := by decide +kernel
theorem dX12_appearsBy_105 : decode cX12_appearsBy 105 = .ok (.imul, 1) := by decide +kernel
theorem dX12_appearsBy_106 : decode cX12_appearsBy 106 = .ok (.iadd, 1) := by decide +kernel
theorem dX12_appearsBy_107 : decode cX12_appearsBy 107 = .ok (.iaload, 1) := by decide +kernel
theorem dX12_appearsBy_108 : decode cX12_appearsBy 108 = .ok (.istore 5, 2) := by decide +kernel
theorem dX12_appearsBy_110 : decode cX12_appearsBy 110 = .ok (.aload_n 0, 1) := by decide +kernel
theorem dX12_appearsBy_111 : decode cX12_appearsBy 111 = .ok (.getfield 148, 3) := by decide +kernel
theorem dX12_appearsBy_114 : decode cX12_appearsBy 114 = .ok (.iload 4, 2) := by decide +kernel
theorem dX12_appearsBy_116 : decode cX12_appearsBy 116 = .ok (.dup2, 1) := by decide +kernel
theorem dX12_appearsBy_117 : decode cX12_appearsBy 117 = .ok (.iaload, 1) := by decide +kernel
theorem dX12_appearsBy_118 : decode cX12_appearsBy 118 = .ok (.iload 5, 2) := by decide +kernel
theorem dX12_appearsBy_120 : decode cX12_appearsBy 120 = .ok (.isub, 1) := by decide +kernel
theorem dX12_appearsBy_121 : decode cX12_appearsBy 121 = .ok (.iastore, 1) := by decide +kernel
theorem dX12_appearsBy_122 : decode cX12_appearsBy 122 = .ok (.iload_n 2, 1) := by decide +kernel
theorem dX12_appearsBy_123 : decode cX12_appearsBy 123 = .ok (.iload 5, 2) := by decide +kernel
theorem dX12_appearsBy_125 : decode cX12_appearsBy 125 = .ok (.iadd, 1) := by decide +kernel
theorem dX12_appearsBy_126 : decode cX12_appearsBy 126 = .ok (.istore_n 2, 1) := by decide +kernel
theorem dX12_appearsBy_127 : decode cX12_appearsBy 127 = .ok (.iinc 3 1, 3) := by decide +kernel
theorem dX12_appearsBy_130 : decode cX12_appearsBy 130 = .ok (.goto (-96), 3) := by decide +kernel
theorem dX12_appearsBy_133 : decode cX12_appearsBy 133 = .ok (.iload_n 2, 1) := by decide +kernel
theorem dX12_appearsBy_134 : decode cX12_appearsBy 134 = .ok (.ireturn, 1) := by decide +kernel
def f_X12_appearsBy_127 (K34 : Int32 → Int32 → Int32 → Hp → Option (Int32 × Hp)) (x1 : Int32) (x2 : Int32) (x3 : Int32) (S : Hp) : Option (Int32 × Hp) :=
  le1 (x3 + (1 : Int32)) (fun v1 => K34 x1 x2 v1 S)
set_option maxHeartbeats 4000000 in
set_option maxRecDepth 100000 in
theorem w_X12_appearsBy_127 {p : Program} {l : Launch} {e : Env} {s : State} {m : MethodId} {args : Array Value} {below : List Frame} {meth : Method} {c : Code} {E : Ev} {S0 : Hp} {r : (Int32 × Hp)} (C : ho_I p s m args meth c RX12 cX12_appearsBy 6 (some .int)) (K34 : Int32 → Int32 → Int32 → Hp → Option (Int32 × Hp)) (hK34 : ∀ (y1 : Int32) (y2 : Int32) (y3 : Int32) (S : Hp), K34 y1 y2 y3 S = some r → ho_G p l e s m args below meth c yM E S0 1 6 (some (.int r.1), r.2) 34 [(0, .ref (E.2.1 0)), (1, .int y1), (2, .int y2), (3, .int y3)] [] S) :
    ∀ (x1 : Int32) (x2 : Int32) (x3 : Int32) (S : Hp), f_X12_appearsBy_127 K34 x1 x2 x3 S = some r → ho_G p l e s m args below meth c yM E S0 1 6 (some (.int r.1), r.2) 127 [(0, .ref (E.2.1 0)), (1, .int x1), (2, .int x2), (3, .int x3)] [] S := by
  intro x1 x2 x3 S h H locs ls hR hl
  unfold f_X12_appearsBy_127 at h
  obtain ⟨v1, e1, h⟩ := le1_ok h
  refine lv_iinc (v := v1) (lv' := [(3, .int v1), (0, .ref (E.2.1 0)), (1, .int x1), (2, .int x2)]) C.1 C.2.1 dX12_appearsBy_127 hl (k := 3) rfl (by rw [e1]; rfl) (by decide) rfl (fun ls hl => ?_)
  refine lv_goto (tgt := 34) C.1 C.2.1 dX12_appearsBy_130 (by decide) ?_
  exact hK34 x1 x2 v1 S h _ _ _ hR (lv_sub hl [1, 2, 3, 0] rfl)
def f_X12_appearsBy_108 (K34 : Int32 → Int32 → Int32 → Hp → Option (Int32 × Hp)) (x1 : Int32) (x2 : Int32) (x3 : Int32) (x4 : Int32) (z0 : Int32) (S : Hp) : Option (Int32 × Hp) :=
  ldI S 60 6 x4 (fun v1 => stI S 60 6 x4 (v1 - z0) (fun S2 => le1 (x2 + z0) (fun v3 => f_X12_appearsBy_127 K34 x1 v3 x3 S2)))
set_option maxHeartbeats 4000000 in
set_option maxRecDepth 100000 in
theorem w_X12_appearsBy_108 {p : Program} {l : Launch} {e : Env} {s : State} {m : MethodId} {args : Array Value} {below : List Frame} {meth : Method} {c : Code} {E : Ev} {S0 : Hp} {r : (Int32 × Hp)} (C : ho_I p s m args meth c RX12 cX12_appearsBy 6 (some .int)) (K34 : Int32 → Int32 → Int32 → Hp → Option (Int32 × Hp)) (hK34 : ∀ (y1 : Int32) (y2 : Int32) (y3 : Int32) (S : Hp), K34 y1 y2 y3 S = some r → ho_G p l e s m args below meth c yM E S0 1 6 (some (.int r.1), r.2) 34 [(0, .ref (E.2.1 0)), (1, .int y1), (2, .int y2), (3, .int y3)] [] S) :
    ∀ (x1 : Int32) (x2 : Int32) (x3 : Int32) (x4 : Int32) (z0 : Int32) (S : Hp), f_X12_appearsBy_108 K34 x1 x2 x3 x4 z0 S = some r → ho_G p l e s m args below meth c yM E S0 1 6 (some (.int r.1), r.2) 108 [(0, .ref (E.2.1 0)), (1, .int x1), (2, .int x2), (3, .int x3), (4, .int x4)] [.int z0] S := by
  intro x1 x2 x3 x4 z0 S h H locs ls hR hl
  unfold f_X12_appearsBy_108 at h
  refine lv_istore (lv' := [(5, .int z0), (0, .ref (E.2.1 0)), (1, .int x1), (2, .int x2), (3, .int x3), (4, .int x4)]) C.1 C.2.1 dX12_appearsBy_108 hl (by decide) rfl (fun ls hl => ?_)
  refine lv_aload_n C.1 C.2.1 dX12_appearsBy_110 rfl (lv_at hl 1 rfl) ?_
  refine ho_getR (a' := 60) C cf12 fM_148 hR aM_0 rfl dX12_appearsBy_111 ?_
  refine lv_iload C.1 C.2.1 dX12_appearsBy_114 (lv_at hl 5 rfl) ?_
  refine lv_dup2_11 C.1 C.2.1 dX12_appearsBy_116 rfl rfl ?_
  obtain ⟨v1, e1, hi1, h⟩ := ldI_ok h
  refine hr_ild C hR aM_60 hi1 e1 dX12_appearsBy_117 ?_
  refine lv_iload C.1 C.2.1 dX12_appearsBy_118 (lv_at hl 0 rfl) ?_
  refine lv_isub C.1 C.2.1 dX12_appearsBy_120 ?_
  obtain ⟨S2, e2, hi2, h⟩ := stI_ok h
  refine hr_ist C hR aM_60 hi2 e2 dX12_appearsBy_121 (fun H locs hR => ?_)
  refine lv_iload_n C.1 C.2.1 dX12_appearsBy_122 rfl (lv_at hl 3 rfl) ?_
  refine lv_iload C.1 C.2.1 dX12_appearsBy_123 (lv_at hl 0 rfl) ?_
  refine lv_iadd C.1 C.2.1 dX12_appearsBy_125 ?_
  refine lv_topi (fun v3 e3 => ?_)
  replace h := le1_at e3 h
  refine lv_istore_n (lv' := [(2, .int v3), (5, .int z0), (0, .ref (E.2.1 0)), (1, .int x1), (3, .int x3), (4, .int x4)]) C.1 C.2.1 dX12_appearsBy_126 rfl hl (by decide) rfl (fun ls hl => ?_)
  exact w_X12_appearsBy_127 C K34 hK34 x1 v3 x3 S2 h _ _ _ hR (lv_sub hl [2, 3, 0, 4] rfl)
def f_X12_appearsBy_34 : Nat → Int32 → Int32 → Int32 → Hp → Option (Int32 × Hp)
  | 0, _, _, _, _ => none
  | k + 1, x1, x2, x3, S => ob2 (f_X12_trickMany S) (fun r1 S1 => if r1 ≤ x3 then some (x2, S1) else if ((x1 >>> (x3 &&& 31)) &&& (1 : Int32)) = 0 then f_X12_appearsBy_127 (f_X12_appearsBy_34 k) x1 x2 x3 S1 else ldI S1 45 36 ((19 : Int32) + ((3 : Int32) * x3)) (fun v2 => ldI S1 45 36 ((18 : Int32) + ((3 : Int32) * x3)) (fun v3 => ldI S1 60 6 v2 (fun v4 => if v3 ≤ v4 then ldI S1 45 36 ((18 : Int32) + ((3 : Int32) * x3)) (fun v5 => f_X12_appearsBy_108 (f_X12_appearsBy_34 k) x1 x2 x3 v2 v5 S1) else ldI S1 60 6 v2 (fun v6 => f_X12_appearsBy_108 (f_X12_appearsBy_34 k) x1 x2 x3 v2 v6 S1)))))
set_option maxHeartbeats 4000000 in
set_option maxRecDepth 100000 in
theorem w_X12_appearsBy_34 {p : Program} {l : Launch} {e : Env} {s : State} {m : MethodId} {args : Array Value} {below : List Frame} {meth : Method} {c : Code} {E : Ev} {S0 : Hp} {r : (Int32 × Hp)} (C : ho_I p s m args meth c RX12 cX12_appearsBy 6 (some .int)) :
    ∀ (k : Nat) (x1 : Int32) (x2 : Int32) (x3 : Int32) (S : Hp), f_X12_appearsBy_34 k x1 x2 x3 S = some r → ho_G p l e s m args below meth c yM E S0 1 6 (some (.int r.1), r.2) 34 [(0, .ref (E.2.1 0)), (1, .int x1), (2, .int x2), (3, .int x3)] [] S := by
  intro k
  induction k with
  | zero =>
    intro x1 x2 x3 S h
    exact absurd (show (none : Option (Int32 × Hp)) = some r from h) (by simp)
  | succ k ih =>
    intro x1 x2 x3 S h H locs ls hR hl
    rw [f_X12_appearsBy_34] at h
    refine lv_iload_n C.1 C.2.1 dX12_appearsBy_34 rfl (lv_at hl 3 rfl) ?_
    refine lv_aload_n C.1 C.2.1 dX12_appearsBy_35 rfl (lv_at hl 0 rfl) ?_
    obtain ⟨r1, S1, h1, h⟩ := ob2_ok h
    refine hr_Vi (v := r1) (S' := S1) (As := []) (rest := [.int x3]) C cf12 (c_X12_trickMany l E _ _ h1) yv_X12_trickMany lk_RX12_410 rfl aM_0 rfl rfl hl.1 (Nat.le_of_ble_eq_true rfl) (by decide) (by decide) hR (ho_A hR) dX12_appearsBy_36 (fun H locs hR => ?_)
    refine lv_icmp_ge (tgt := 133) C.1 C.2.1 dX12_appearsBy_39 (by decide) (fun hc => ?_) (fun hc => ?_)
    · replace h := if_t h hc
      refine lv_iload_n C.1 C.2.1 dX12_appearsBy_133 rfl (lv_at hl 2 rfl) ?_
      exact ho_iret C hR h dX12_appearsBy_134
    · replace h := if_f h hc
      refine lv_iload_n C.1 C.2.1 dX12_appearsBy_42 rfl (lv_at hl 1 rfl) ?_
      refine lv_iload_n C.1 C.2.1 dX12_appearsBy_43 rfl (lv_at hl 3 rfl) ?_
      refine lv_ishr C.1 C.2.1 dX12_appearsBy_44 ?_
      refine lv_iconst (v := (1 : Int32)) C.1 C.2.1 dX12_appearsBy_45 (by decide) ?_
      refine lv_iand C.1 C.2.1 dX12_appearsBy_46 ?_
      refine lv_if_ne (tgt := 53) C.1 C.2.1 dX12_appearsBy_47 (by decide) (fun hc => ?_) (fun hc => ?_)
      · replace h := if_f h hc
        refine lv_aload_n C.1 C.2.1 dX12_appearsBy_53 rfl (lv_at hl 0 rfl) ?_
        refine ho_getR (a' := 45) C cf12 fM_121 hR aM_0 rfl dX12_appearsBy_54 ?_
        refine lv_bipush (v := (19 : Int32)) C.1 C.2.1 dX12_appearsBy_57 (by decide) ?_
        refine lv_iconst (v := (3 : Int32)) C.1 C.2.1 dX12_appearsBy_59 (by decide) ?_
        refine lv_iload_n C.1 C.2.1 dX12_appearsBy_60 rfl (lv_at hl 3 rfl) ?_
        refine lv_imul C.1 C.2.1 dX12_appearsBy_61 ?_
        refine lv_iadd C.1 C.2.1 dX12_appearsBy_62 ?_
        obtain ⟨v2, e2, hi2, h⟩ := ldI_ok h
        refine hr_ild C hR aM_45 hi2 e2 dX12_appearsBy_63 ?_
        refine lv_istore (lv' := [(4, .int v2), (0, .ref (E.2.1 0)), (1, .int x1), (2, .int x2), (3, .int x3)]) C.1 C.2.1 dX12_appearsBy_64 hl (by decide) rfl (fun ls hl => ?_)
        refine lv_aload_n C.1 C.2.1 dX12_appearsBy_66 rfl (lv_at hl 1 rfl) ?_
        refine ho_getR (a' := 45) C cf12 fM_121 hR aM_0 rfl dX12_appearsBy_67 ?_
        refine lv_bipush (v := (18 : Int32)) C.1 C.2.1 dX12_appearsBy_70 (by decide) ?_
        refine lv_iconst (v := (3 : Int32)) C.1 C.2.1 dX12_appearsBy_72 (by decide) ?_
        refine lv_iload_n C.1 C.2.1 dX12_appearsBy_73 rfl (lv_at hl 4 rfl) ?_
        refine lv_imul C.1 C.2.1 dX12_appearsBy_74 ?_
        refine lv_iadd C.1 C.2.1 dX12_appearsBy_75 ?_
        obtain ⟨v3, e3, hi3, h⟩ := ldI_ok h
        refine hr_ild C hR aM_45 hi3 e3 dX12_appearsBy_76 ?_
        refine lv_aload_n C.1 C.2.1 dX12_appearsBy_77 rfl (lv_at hl 1 rfl) ?_
        refine ho_getR (a' := 60) C cf12 fM_148 hR aM_0 rfl dX12_appearsBy_78 ?_
        refine lv_iload C.1 C.2.1 dX12_appearsBy_81 (lv_at hl 0 rfl) ?_
        obtain ⟨v4, e4, hi4, h⟩ := ldI_ok h
        refine hr_ild C hR aM_60 hi4 e4 dX12_appearsBy_83 ?_
        refine lv_icmp_le (tgt := 97) C.1 C.2.1 dX12_appearsBy_84 (by decide) (fun hc => ?_) (fun hc => ?_)
        · replace h := if_t h hc
          refine lv_aload_n C.1 C.2.1 dX12_appearsBy_97 rfl (lv_at hl 1 rfl) ?_
          refine ho_getR (a' := 45) C cf12 fM_121 hR aM_0 rfl dX12_appearsBy_98 ?_
          refine lv_bipush (v := (18 : Int32)) C.1 C.2.1 dX12_appearsBy_101 (by decide) ?_
          refine lv_iconst (v := (3 : Int32)) C.1 C.2.1 dX12_appearsBy_103 (by decide) ?_
          refine lv_iload_n C.1 C.2.1 dX12_appearsBy_104 rfl (lv_at hl 4 rfl) ?_
          refine lv_imul C.1 C.2.1 dX12_appearsBy_105 ?_
          refine lv_iadd C.1 C.2.1 dX12_appearsBy_106 ?_
          obtain ⟨v5, e5, hi5, h⟩ := ldI_ok h
          refine hr_ild C hR aM_45 hi5 e5 dX12_appearsBy_107 ?_
          exact w_X12_appearsBy_108 C (f_X12_appearsBy_34 k) ih x1 x2 x3 v2 v5 S1 h _ _ _ hR (lv_sub hl [1, 2, 3, 4, 0] rfl)
        · replace h := if_f h hc
          refine lv_aload_n C.1 C.2.1 dX12_appearsBy_87 rfl (lv_at hl 1 rfl) ?_
          refine ho_getR (a' := 60) C cf12 fM_148 hR aM_0 rfl dX12_appearsBy_88 ?_
          refine lv_iload C.1 C.2.1 dX12_appearsBy_91 (lv_at hl 0 rfl) ?_
          obtain ⟨v6, e6, hi6, h⟩ := ldI_ok h
          refine hr_ild C hR aM_60 hi6 e6 dX12_appearsBy_93 ?_
          refine lv_goto (tgt := 108) C.1 C.2.1 dX12_appearsBy_94 (by decide) ?_
          exact w_X12_appearsBy_108 C (f_X12_appearsBy_34 k) ih x1 x2 x3 v2 v6 S1 h _ _ _ hR (lv_sub hl [1, 2, 3, 4, 0] rfl)
      · replace h := if_t h hc
        refine lv_goto (tgt := 127) C.1 C.2.1 dX12_appearsBy_50 (by decide) ?_
        exact w_X12_appearsBy_127 C (f_X12_appearsBy_34 k) ih x1 x2 x3 S1 h _ _ _ hR (lv_sub hl [0, 1, 2, 3] rfl)
def f_X12_appearsBy_4 : Nat → Int32 → Int32 → Int32 → Hp → Option (Int32 × Hp)
  | 0, _, _, _, _ => none
  | k + 1, x1, x2, x3, S => ob2 (f_X12_provinceMany S) (fun r1 S1 => if r1 ≤ x3 then f_X12_appearsBy_34 5000 x1 x2 (0 : Int32) S1 else ldI S1 55 117 ((3 : Int32) + x3) (fun v2 => stI S1 60 6 x3 v2 (fun S3 => le1 (x3 + (1 : Int32)) (fun v4 => f_X12_appearsBy_4 k x1 x2 v4 S3))))
set_option maxHeartbeats 4000000 in
set_option maxRecDepth 100000 in
theorem w_X12_appearsBy_4 {p : Program} {l : Launch} {e : Env} {s : State} {m : MethodId} {args : Array Value} {below : List Frame} {meth : Method} {c : Code} {E : Ev} {S0 : Hp} {r : (Int32 × Hp)} (C : ho_I p s m args meth c RX12 cX12_appearsBy 6 (some .int)) :
    ∀ (k : Nat) (x1 : Int32) (x2 : Int32) (x3 : Int32) (S : Hp), f_X12_appearsBy_4 k x1 x2 x3 S = some r → ho_G p l e s m args below meth c yM E S0 1 6 (some (.int r.1), r.2) 4 [(0, .ref (E.2.1 0)), (1, .int x1), (2, .int x2), (3, .int x3)] [] S := by
  intro k
  induction k with
  | zero =>
    intro x1 x2 x3 S h
    exact absurd (show (none : Option (Int32 × Hp)) = some r from h) (by simp)
  | succ k ih =>
    intro x1 x2 x3 S h H locs ls hR hl
    rw [f_X12_appearsBy_4] at h
    refine lv_iload_n C.1 C.2.1 dX12_appearsBy_4 rfl (lv_at hl 3 rfl) ?_
    refine lv_aload_n C.1 C.2.1 dX12_appearsBy_5 rfl (lv_at hl 0 rfl) ?_
    obtain ⟨r1, S1, h1, h⟩ := ob2_ok h
    refine hr_Vi (v := r1) (S' := S1) (As := []) (rest := [.int x3]) C cf12 (c_X12_provinceMany l E _ _ h1) yv_X12_provinceMany lk_RX12_407 rfl aM_0 rfl rfl hl.1 (Nat.le_of_ble_eq_true rfl) (by decide) (by decide) hR (ho_A hR) dX12_appearsBy_6 (fun H locs hR => ?_)
    refine lv_icmp_ge (tgt := 32) C.1 C.2.1 dX12_appearsBy_9 (by decide) (fun hc => ?_) (fun hc => ?_)
    · replace h := if_t h hc
      refine lv_iconst (v := (0 : Int32)) C.1 C.2.1 dX12_appearsBy_32 (by decide) ?_
      refine lv_istore_n (lv' := [(3, .int (0 : Int32)), (0, .ref (E.2.1 0)), (1, .int x1), (2, .int x2)]) C.1 C.2.1 dX12_appearsBy_33 rfl hl (by decide) rfl (fun ls hl => ?_)
      exact w_X12_appearsBy_34 C 5000 x1 x2 (0 : Int32) S1 h _ _ _ hR (lv_sub hl [1, 2, 3, 0] rfl)
    · replace h := if_f h hc
      refine lv_aload_n C.1 C.2.1 dX12_appearsBy_12 rfl (lv_at hl 0 rfl) ?_
      refine ho_getR (a' := 60) C cf12 fM_148 hR aM_0 rfl dX12_appearsBy_13 ?_
      refine lv_iload_n C.1 C.2.1 dX12_appearsBy_16 rfl (lv_at hl 3 rfl) ?_
      refine lv_aload_n C.1 C.2.1 dX12_appearsBy_17 rfl (lv_at hl 0 rfl) ?_
      refine ho_getR (a' := 55) C cf12 fM_139 hR aM_0 rfl dX12_appearsBy_18 ?_
      refine lv_iconst (v := (3 : Int32)) C.1 C.2.1 dX12_appearsBy_21 (by decide) ?_
      refine lv_iload_n C.1 C.2.1 dX12_appearsBy_22 rfl (lv_at hl 3 rfl) ?_
      refine lv_iadd C.1 C.2.1 dX12_appearsBy_23 ?_
      obtain ⟨v2, e2, hi2, h⟩ := ldI_ok h
      refine hr_ild C hR aM_55 hi2 e2 dX12_appearsBy_24 ?_
      obtain ⟨S3, e3, hi3, h⟩ := stI_ok h
      refine hr_ist C hR aM_60 hi3 e3 dX12_appearsBy_25 (fun H locs hR => ?_)
      obtain ⟨v4, e4, h⟩ := le1_ok h
      refine lv_iinc (v := v4) (lv' := [(3, .int v4), (0, .ref (E.2.1 0)), (1, .int x1), (2, .int x2)]) C.1 C.2.1 dX12_appearsBy_26 hl (k := 3) rfl (by rw [e4]; rfl) (by decide) rfl (fun ls hl => ?_)
      refine lv_goto (tgt := 4) C.1 C.2.1 dX12_appearsBy_29 (by decide) ?_
      exact ih x1 x2 v4 S3 h _ _ _ hR (lv_sub hl [1, 2, 3, 0] rfl)
def f_X12_appearsBy (x1 : Int32) (S : Hp) : Option (Int32 × Hp) :=
  f_X12_appearsBy_4 5000 x1 (0 : Int32) (0 : Int32) S
set_option maxHeartbeats 4000000 in
set_option maxRecDepth 100000 in
theorem c_X12_appearsBy (l : Launch) (E : Ev) (x1 : Int32) (S : Hp) (r : (Int32 × Hp)) (h : f_X12_appearsBy x1 S = some r) : ho_M l yM E yX12_appearsBy cX12_appearsBy 6 (some .int) 1 [.ref (E.2.1 0), .int x1] S (some (.int r.1), r.2) := by
  refine ho_in (by decide) (Nat.le_of_ble_eq_true rfl) ?_
  intro p e s m args below meth c C hR ls hl
  have C : ho_I p s m args meth c RX12 cX12_appearsBy 6 (some .int) := C
  have hl : lv_has ls 6 [(0, .ref (E.2.1 0)), (1, .int x1)] := hl
  unfold f_X12_appearsBy at h
  refine lv_iconst (v := (0 : Int32)) C.1 C.2.1 dX12_appearsBy_0 (by decide) ?_
  refine lv_istore_n (lv' := [(2, .int (0 : Int32)), (0, .ref (E.2.1 0)), (1, .int x1)]) C.1 C.2.1 dX12_appearsBy_1 rfl hl (by decide) rfl (fun ls hl => ?_)
  refine lv_iconst (v := (0 : Int32)) C.1 C.2.1 dX12_appearsBy_2 (by decide) ?_
  refine lv_istore_n (lv' := [(3, .int (0 : Int32)), (2, .int (0 : Int32)), (0, .ref (E.2.1 0)), (1, .int x1)]) C.1 C.2.1 dX12_appearsBy_3 rfl hl (by decide) rfl (fun ls hl => ?_)
  exact w_X12_appearsBy_4 C 5000 x1 (0 : Int32) (0 : Int32) S h _ _ _ hR (lv_sub hl [2, 3, 1, 0] rfl)
theorem dX12_sightBySet_0 : decode cX12_sightBySet 0 = .ok (.iconst 0, 1) := by decide +kernel
theorem dX12_sightBySet_1 : decode cX12_sightBySet 1 = .ok (.istore_n 2, 1) := by decide +kernel
theorem dX12_sightBySet_2 : decode cX12_sightBySet 2 = .ok (.iconst 0, 1) := by decide +kernel
theorem dX12_sightBySet_3 : decode cX12_sightBySet 3 = .ok (.istore_n 3, 1) := by decide +kernel
theorem dX12_sightBySet_4 : decode cX12_sightBySet 4 = .ok (.iload_n 3, 1) := by decide +kernel
theorem dX12_sightBySet_5 : decode cX12_sightBySet 5 = .ok (.aload_n 0, 1) := by decide +kernel
theorem dX12_sightBySet_6 : decode cX12_sightBySet 6 = .ok (.invokevirtual 410, 3) := by decide +kernel
theorem dX12_sightBySet_9 : decode cX12_sightBySet 9 = .ok (.if_icmp .ge 27, 3) := by decide +kernel
theorem dX12_sightBySet_12 : decode cX12_sightBySet 12 = .ok (.iload_n 1, 1) := by decide +kernel
theorem dX12_sightBySet_13 : decode cX12_sightBySet 13 = .ok (.iload_n 3, 1) := by decide +kernel
theorem dX12_sightBySet_14 : decode cX12_sightBySet 14 = .ok (.ishr, 1) := by decide +kernel
theorem dX12_sightBySet_15 : decode cX12_sightBySet 15 = .ok (.iconst 1, 1) := by decide +kernel
theorem dX12_sightBySet_16 : decode cX12_sightBySet 16 = .ok (.iand, 1) := by decide +kernel
theorem dX12_sightBySet_17 : decode cX12_sightBySet 17 = .ok (.iconst 1, 1) := by decide +kernel
theorem dX12_sightBySet_18 : decode cX12_sightBySet 18 = .ok (.if_icmp .ne 12, 3) := by decide +kernel
theorem dX12_sightBySet_21 : decode cX12_sightBySet 21 = .ok (.iload_n 2, 1) := by decide +kernel
theorem dX12_sightBySet_22 : decode cX12_sightBySet 22 = .ok (.aload_n 0, 1) := by decide +kernel
theorem dX12_sightBySet_23 : decode cX12_sightBySet 23 = .ok (.getfield 151, 3) := by decide +kernel
theorem dX12_sightBySet_26 : decode cX12_sightBySet 26 = .ok (.iload_n 3, 1) := by decide +kernel
theorem dX12_sightBySet_27 : decode cX12_sightBySet 27 = .ok (.iaload, 1) := by decide +kernel
theorem dX12_sightBySet_28 : decode cX12_sightBySet 28 = .ok (.iadd, 1) := by decide +kernel
theorem dX12_sightBySet_29 : decode cX12_sightBySet 29 = .ok (.istore_n 2, 1) := by decide +kernel
theorem dX12_sightBySet_30 : decode cX12_sightBySet 30 = .ok (.iinc 3 1, 3) := by decide +kernel
theorem dX12_sightBySet_33 : decode cX12_sightBySet 33 = .ok (.goto (-29), 3) := by decide +kernel
theorem dX12_sightBySet_36 : decode cX12_sightBySet 36 = .ok (.iload_n 2, 1) := by decide +kernel
theorem dX12_sightBySet_37 : decode cX12_sightBySet 37 = .ok (.ireturn, 1) := by decide +kernel
def f_X12_sightBySet_30 (K4 : Int32 → Int32 → Int32 → Hp → Option (Int32 × Hp)) (x1 : Int32) (x2 : Int32) (x3 : Int32) (S : Hp) : Option (Int32 × Hp) :=
  le1 (x3 + (1 : Int32)) (fun v1 => K4 x1 x2 v1 S)
set_option maxHeartbeats 4000000 in
set_option maxRecDepth 100000 in
theorem w_X12_sightBySet_30 {p : Program} {l : Launch} {e : Env} {s : State} {m : MethodId} {args : Array Value} {below : List Frame} {meth : Method} {c : Code} {E : Ev} {S0 : Hp} {r : (Int32 × Hp)} (C : ho_I p s m args meth c RX12 cX12_sightBySet 4 (some .int)) (K4 : Int32 → Int32 → Int32 → Hp → Option (Int32 × Hp)) (hK4 : ∀ (y1 : Int32) (y2 : Int32) (y3 : Int32) (S : Hp), K4 y1 y2 y3 S = some r → ho_G p l e s m args below meth c yM E S0 1 4 (some (.int r.1), r.2) 4 [(0, .ref (E.2.1 0)), (1, .int y1), (2, .int y2), (3, .int y3)] [] S) :
    ∀ (x1 : Int32) (x2 : Int32) (x3 : Int32) (S : Hp), f_X12_sightBySet_30 K4 x1 x2 x3 S = some r → ho_G p l e s m args below meth c yM E S0 1 4 (some (.int r.1), r.2) 30 [(0, .ref (E.2.1 0)), (1, .int x1), (2, .int x2), (3, .int x3)] [] S := by
  intro x1 x2 x3 S h H locs ls hR hl
  unfold f_X12_sightBySet_30 at h
  obtain ⟨v1, e1, h⟩ := le1_ok h
  refine lv_iinc (v := v1) (lv' := [(3, .int v1), (0, .ref (E.2.1 0)), (1, .int x1), (2, .int x2)]) C.1 C.2.1 dX12_sightBySet_30 hl (k := 3) rfl (by rw [e1]; rfl) (by decide) rfl (fun ls hl => ?_)
  refine lv_goto (tgt := 4) C.1 C.2.1 dX12_sightBySet_33 (by decide) ?_
  exact hK4 x1 x2 v1 S h _ _ _ hR (lv_sub hl [1, 2, 3, 0] rfl)
def f_X12_sightBySet_4 : Nat → Int32 → Int32 → Int32 → Hp → Option (Int32 × Hp)
  | 0, _, _, _, _ => none
  | k + 1, x1, x2, x3, S => ob2 (f_X12_trickMany S) (fun r1 S1 => if r1 ≤ x3 then some (x2, S1) else if ((x1 >>> (x3 &&& 31)) &&& (1 : Int32)) = (1 : Int32) then ldI S1 61 6 x3 (fun v2 => le1 (x2 + v2) (fun v3 => f_X12_sightBySet_30 (f_X12_sightBySet_4 k) x1 v3 x3 S1)) else f_X12_sightBySet_30 (f_X12_sightBySet_4 k) x1 x2 x3 S1)
set_option maxHeartbeats 4000000 in
set_option maxRecDepth 100000 in
theorem w_X12_sightBySet_4 {p : Program} {l : Launch} {e : Env} {s : State} {m : MethodId} {args : Array Value} {below : List Frame} {meth : Method} {c : Code} {E : Ev} {S0 : Hp} {r : (Int32 × Hp)} (C : ho_I p s m args meth c RX12 cX12_sightBySet 4 (some .int)) :
    ∀ (k : Nat) (x1 : Int32) (x2 : Int32) (x3 : Int32) (S : Hp), f_X12_sightBySet_4 k x1 x2 x3 S = some r → ho_G p l e s m args below meth c yM E S0 1 4 (some (.int r.1), r.2) 4 [(0, .ref (E.2.1 0)), (1, .int x1), (2, .int x2), (3, .int x3)] [] S := by
  intro k
  induction k with
  | zero =>
    intro x1 x2 x3 S h
    exact absurd (show (none : Option (Int32 × Hp)) = some r from h) (by simp)
  | succ k ih =>
    intro x1 x2 x3 S h H locs ls hR hl
    rw [f_X12_sightBySet_4] at h
    refine lv_iload_n C.1 C.2.1 dX12_sightBySet_4 rfl (lv_at hl 3 rfl) ?_
    refine lv_aload_n C.1 C.2.1 dX12_sightBySet_5 rfl (lv_at hl 0 rfl) ?_
    obtain ⟨r1, S1, h1, h⟩ := ob2_ok h
    refine hr_Vi (v := r1) (S' := S1) (As := []) (rest := [.int x3]) C cf12 (c_X12_trickMany l E _ _ h1) yv_X12_trickMany lk_RX12_410 rfl aM_0 rfl rfl hl.1 (Nat.le_of_ble_eq_true rfl) (by decide) (by decide) hR (ho_A hR) dX12_sightBySet_6 (fun H locs hR => ?_)
    refine lv_icmp_ge (tgt := 36) C.1 C.2.1 dX12_sightBySet_9 (by decide) (fun hc => ?_) (fun hc => ?_)
    · replace h := if_t h hc
      refine lv_iload_n C.1 C.2.1 dX12_sightBySet_36 rfl (lv_at hl 2 rfl) ?_
      exact ho_iret C hR h dX12_sightBySet_37
    · replace h := if_f h hc
      refine lv_iload_n C.1 C.2.1 dX12_sightBySet_12 rfl (lv_at hl 1 rfl) ?_
      refine lv_iload_n C.1 C.2.1 dX12_sightBySet_13 rfl (lv_at hl 3 rfl) ?_
      refine lv_ishr C.1 C.2.1 dX12_sightBySet_14 ?_
      refine lv_iconst (v := (1 : Int32)) C.1 C.2.1 dX12_sightBySet_15 (by decide) ?_
      refine lv_iand C.1 C.2.1 dX12_sightBySet_16 ?_
      refine lv_iconst (v := (1 : Int32)) C.1 C.2.1 dX12_sightBySet_17 (by decide) ?_
      refine lv_icmp_ne (tgt := 30) C.1 C.2.1 dX12_sightBySet_18 (by decide) (fun hc => ?_) (fun hc => ?_)
      · replace h := if_f h hc
        exact w_X12_sightBySet_30 C (f_X12_sightBySet_4 k) ih x1 x2 x3 S1 h _ _ _ hR (lv_sub hl [0, 1, 2, 3] rfl)
      · replace h := if_t h hc
        refine lv_iload_n C.1 C.2.1 dX12_sightBySet_21 rfl (lv_at hl 2 rfl) ?_
        refine lv_aload_n C.1 C.2.1 dX12_sightBySet_22 rfl (lv_at hl 0 rfl) ?_
        refine ho_getR (a' := 61) C cf12 fM_151 hR aM_0 rfl dX12_sightBySet_23 ?_
        refine lv_iload_n C.1 C.2.1 dX12_sightBySet_26 rfl (lv_at hl 3 rfl) ?_
        obtain ⟨v2, e2, hi2, h⟩ := ldI_ok h
        refine hr_ild C hR aM_61 hi2 e2 dX12_sightBySet_27 ?_
        refine lv_iadd C.1 C.2.1 dX12_sightBySet_28 ?_
        refine lv_topi (fun v3 e3 => ?_)
        replace h := le1_at e3 h
        refine lv_istore_n (lv' := [(2, .int v3), (0, .ref (E.2.1 0)), (1, .int x1), (3, .int x3)]) C.1 C.2.1 dX12_sightBySet_29 rfl hl (by decide) rfl (fun ls hl => ?_)
        exact w_X12_sightBySet_30 C (f_X12_sightBySet_4 k) ih x1 v3 x3 S1 h _ _ _ hR (lv_sub hl [1, 2, 0, 3] rfl)
def f_X12_sightBySet (x1 : Int32) (S : Hp) : Option (Int32 × Hp) :=
  f_X12_sightBySet_4 5000 x1 (0 : Int32) (0 : Int32) S
set_option maxHeartbeats 4000000 in
set_option maxRecDepth 100000 in
theorem c_X12_sightBySet (l : Launch) (E : Ev) (x1 : Int32) (S : Hp) (r : (Int32 × Hp)) (h : f_X12_sightBySet x1 S = some r) : ho_M l yM E yX12_sightBySet cX12_sightBySet 4 (some .int) 1 [.ref (E.2.1 0), .int x1] S (some (.int r.1), r.2) := by
  refine ho_in (by decide) (Nat.le_of_ble_eq_true rfl) ?_
  intro p e s m args below meth c C hR ls hl
  have C : ho_I p s m args meth c RX12 cX12_sightBySet 4 (some .int) := C
  have hl : lv_has ls 4 [(0, .ref (E.2.1 0)), (1, .int x1)] := hl
  unfold f_X12_sightBySet at h
  refine lv_iconst (v := (0 : Int32)) C.1 C.2.1 dX12_sightBySet_0 (by decide) ?_
  refine lv_istore_n (lv' := [(2, .int (0 : Int32)), (0, .ref (E.2.1 0)), (1, .int x1)]) C.1 C.2.1 dX12_sightBySet_1 rfl hl (by decide) rfl (fun ls hl => ?_)
  refine lv_iconst (v := (0 : Int32)) C.1 C.2.1 dX12_sightBySet_2 (by decide) ?_
  refine lv_istore_n (lv' := [(3, .int (0 : Int32)), (2, .int (0 : Int32)), (0, .ref (E.2.1 0)), (1, .int x1)]) C.1 C.2.1 dX12_sightBySet_3 rfl hl (by decide) rfl (fun ls hl => ?_)
  exact w_X12_sightBySet_4 C 5000 x1 (0 : Int32) (0 : Int32) S h _ _ _ hR (lv_sub hl [2, 3, 1, 0] rfl)
theorem dX12_laysSights_0 : decode cX12_laysSights 0 = .ok (.iconst 0, 1) := by decide +kernel
theorem dX12_laysSights_1 : decode cX12_laysSights 1 = .ok (.istore_n 1, 1) := by decide +kernel
theorem dX12_laysSights_2 : decode cX12_laysSights 2 = .ok (.iload_n 1, 1) := by decide +kernel
theorem dX12_laysSights_3 : decode cX12_laysSights 3 = .ok (.aload_n 0, 1) := by decide +kernel
theorem dX12_laysSights_4 : decode cX12_laysSights 4 = .ok (.invokevirtual 410, 3) := by decide +kernel
theorem dX12_laysSights_7 : decode cX12_laysSights 7 = .ok (.if_icmp .ge 20, 3) := by decide +kernel
theorem dX12_laysSights_10 : decode cX12_laysSights 10 = .ok (.aload_n 0, 1) := by decide +kernel
theorem dX12_laysSights_11 : decode cX12_laysSights 11 = .ok (.getfield 151, 3) := by decide +kernel
theorem dX12_laysSights_14 : decode cX12_laysSights 14 = .ok (.iload_n 1, 1) := by decide +kernel
theorem dX12_laysSights_15 : decode cX12_laysSights 15 = .ok (.aload_n 0, 1) := by decide +kernel
theorem dX12_laysSights_16 : decode cX12_laysSights 16 = .ok (.iload_n 1, 1) := by decide +kernel
theorem dX12_laysSights_17 : decode cX12_laysSights 17 = .ok (.invokevirtual 461, 3) := by decide +kernel
theorem dX12_laysSights_20 : decode cX12_laysSights 20 = .ok (.iastore, 1) := by decide +kernel
theorem dX12_laysSights_21 : decode cX12_laysSights 21 = .ok (.iinc 1 1, 3) := by decide +kernel
theorem dX12_laysSights_24 : decode cX12_laysSights 24 = .ok (.goto (-22), 3) := by decide +kernel
theorem dX12_laysSights_27 : decode cX12_laysSights 27 = .ok (.return_, 1) := by decide +kernel
def f_X12_laysSights_2 : Nat → Int32 → Hp → Option Hp
  | 0, _, _ => none
  | k + 1, x1, S => ob2 (f_X12_trickMany S) (fun r1 S1 => if r1 ≤ x1 then some S1 else ob2 (f_X12_sightOf x1 S1) (fun r2 S2 => stI S2 61 6 x1 r2 (fun S3 => le1 (x1 + (1 : Int32)) (fun v4 => f_X12_laysSights_2 k v4 S3))))
set_option maxHeartbeats 4000000 in
set_option maxRecDepth 100000 in
theorem w_X12_laysSights_2 {p : Program} {l : Launch} {e : Env} {s : State} {m : MethodId} {args : Array Value} {below : List Frame} {meth : Method} {c : Code} {E : Ev} {S0 : Hp} {r : Hp} (C : ho_I p s m args meth c RX12 cX12_laysSights 2 none) :
    ∀ (k : Nat) (x1 : Int32) (S : Hp), f_X12_laysSights_2 k x1 S = some r → ho_G p l e s m args below meth c yM E S0 5 2 (none, r) 2 [(0, .ref (E.2.1 0)), (1, .int x1)] [] S := by
  intro k
  induction k with
  | zero =>
    intro x1 S h
    exact absurd (show (none : Option Hp) = some r from h) (by simp)
  | succ k ih =>
    intro x1 S h H locs ls hR hl
    rw [f_X12_laysSights_2] at h
    refine lv_iload_n C.1 C.2.1 dX12_laysSights_2 rfl (lv_at hl 1 rfl) ?_
    refine lv_aload_n C.1 C.2.1 dX12_laysSights_3 rfl (lv_at hl 0 rfl) ?_
    obtain ⟨r1, S1, h1, h⟩ := ob2_ok h
    refine hr_Vi (v := r1) (S' := S1) (As := []) (rest := [.int x1]) C cf12 (c_X12_trickMany l E _ _ h1) yv_X12_trickMany lk_RX12_410 rfl aM_0 rfl rfl hl.1 (Nat.le_of_ble_eq_true rfl) (by decide) (by decide) hR (ho_A hR) dX12_laysSights_4 (fun H locs hR => ?_)
    refine lv_icmp_ge (tgt := 27) C.1 C.2.1 dX12_laysSights_7 (by decide) (fun hc => ?_) (fun hc => ?_)
    · replace h := if_t h hc
      exact ho_vret C hR h dX12_laysSights_27
    · replace h := if_f h hc
      refine lv_aload_n C.1 C.2.1 dX12_laysSights_10 rfl (lv_at hl 0 rfl) ?_
      refine ho_getR (a' := 61) C cf12 fM_151 hR aM_0 rfl dX12_laysSights_11 ?_
      refine lv_iload_n C.1 C.2.1 dX12_laysSights_14 rfl (lv_at hl 1 rfl) ?_
      refine lv_aload_n C.1 C.2.1 dX12_laysSights_15 rfl (lv_at hl 0 rfl) ?_
      refine lv_iload_n C.1 C.2.1 dX12_laysSights_16 rfl (lv_at hl 1 rfl) ?_
      obtain ⟨r2, S2, h2, h⟩ := ob2_ok h
      refine hr_Vi (v := r2) (S' := S2) (As := [.int x1]) (rest := [.int x1, .ref (E.2.1 61)]) C cf12 (c_X12_sightOf l E x1 _ _ h2) yv_X12_sightOf lk_RX12_461 rfl aM_0 rfl rfl hl.1 (Nat.le_of_ble_eq_true rfl) (by decide) (by decide) hR (ho_A hR) dX12_laysSights_17 (fun H locs hR => ?_)
      obtain ⟨S3, e3, hi3, h⟩ := stI_ok h
      refine hr_ist C hR aM_61 hi3 e3 dX12_laysSights_20 (fun H locs hR => ?_)
      obtain ⟨v4, e4, h⟩ := le1_ok h
      refine lv_iinc (v := v4) (lv' := [(1, .int v4), (0, .ref (E.2.1 0))]) C.1 C.2.1 dX12_laysSights_21 hl (k := 1) rfl (by rw [e4]; rfl) (by decide) rfl (fun ls hl => ?_)
      refine lv_goto (tgt := 2) C.1 C.2.1 dX12_laysSights_24 (by decide) ?_
      exact ih v4 S3 h _ _ _ hR (lv_sub hl [1, 0] rfl)
def f_X12_laysSights (S : Hp) : Option Hp :=
  f_X12_laysSights_2 5000 (0 : Int32) S
set_option maxHeartbeats 4000000 in
set_option maxRecDepth 100000 in
theorem c_X12_laysSights (l : Launch) (E : Ev) (S : Hp) (r : Hp) (h : f_X12_laysSights S = some r) : ho_M l yM E yX12_laysSights cX12_laysSights 2 none 5 [.ref (E.2.1 0)] S (none, r) := by
  refine ho_in (by decide) (Nat.le_of_ble_eq_true rfl) ?_
  intro p e s m args below meth c C hR ls hl
  have C : ho_I p s m args meth c RX12 cX12_laysSights 2 none := C
  have hl : lv_has ls 2 [(0, .ref (E.2.1 0))] := hl
  unfold f_X12_laysSights at h
  refine lv_iconst (v := (0 : Int32)) C.1 C.2.1 dX12_laysSights_0 (by decide) ?_
  refine lv_istore_n (lv' := [(1, .int (0 : Int32)), (0, .ref (E.2.1 0))]) C.1 C.2.1 dX12_laysSights_1 rfl hl (by decide) rfl (fun ls hl => ?_)
  exact w_X12_laysSights_2 C 5000 (0 : Int32) S h _ _ _ hR (lv_sub hl [1, 0] rfl)
theorem dX12_isBetter_0 : decode cX12_isBetter 0 = .ok (.aload_n 0, 1) := by decide +kernel
theorem dX12_isBetter_1 : decode cX12_isBetter 1 = .ok (.iload_n 1, 1) := by decide +kernel
theorem dX12_isBetter_2 : decode cX12_isBetter 2 = .ok (.invokevirtual 464, 3) := by decide +kernel
theorem dX12_isBetter_5 : decode cX12_isBetter 5 = .ok (.istore_n 3, 1) := by decide +kernel
theorem dX12_isBetter_6 : decode cX12_isBetter 6 = .ok (.aload_n 0, 1) := by decide +kernel
theorem dX12_isBetter_7 : decode cX12_isBetter 7 = .ok (.iload_n 2, 1) := by decide +kernel
theorem dX12_isBetter_8 : decode cX12_isBetter 8 = .ok (.invokevirtual 464, 3) := by decide +kernel
theorem dX12_isBetter_11 : decode cX12_isBetter 11 = .ok (.istore 4, 2) := by decide +kernel
theorem dX12_isBetter_13 : decode cX12_isBetter 13 = .ok (.iload_n 3, 1) := by decide +kernel
theorem dX12_isBetter_14 : decode cX12_isBetter 14 = .ok (.aload_n 0, 1) := by decide +kernel
theorem dX12_isBetter_15 : decode cX12_isBetter 15 = .ok (.getfield 115, 3) := by decide +kernel
theorem dX12_isBetter_18 : decode cX12_isBetter 18 = .ok (.iconst 3, 1) := by decide +kernel
theorem dX12_isBetter_19 : decode cX12_isBetter 19 = .ok (.iaload, 1) := by decide +kernel
theorem dX12_isBetter_20 : decode cX12_isBetter 20 = .ok (.if_icmp .lt 7, 3) := by decide +kernel
theorem dX12_isBetter_23 : decode cX12_isBetter 23 = .ok (.iconst 1, 1) := by decide +kernel
theorem dX12_isBetter_24 : decode cX12_isBetter 24 = .ok (.goto 4, 3) := by decide +kernel
theorem dX12_isBetter_27 : decode cX12_isBetter 27 = .ok (.iconst 0, 1) := by decide +kernel
theorem dX12_isBetter_28 : decode cX12_isBetter 28 = .ok (.istore 5, 2) := by decide +kernel
theorem dX12_isBetter_30 : decode cX12_isBetter 30 = .ok (.iload 5, 2) := by decide +kernel
theorem dX12_isBetter_32 : decode cX12_isBetter 32 = .ok (.iload 4, 2) := by decide +kernel
theorem dX12_isBetter_34 : decode cX12_isBetter 34 = .ok (.aload_n 0, 1) := by decide +kernel
theorem dX12_isBetter_35 : decode cX12_isBetter 35 = .ok (.getfield 115, 3) := by decide +kernel
theorem dX12_isBetter_38 : decode cX12_isBetter 38 = .ok (.iconst 3, 1) := by decide +kernel
theorem dX12_isBetter_39 : decode cX12_isBetter 39 = .ok (.iaload, 1) := by decide +kernel
theorem dX12_isBetter_40 : decode cX12_isBetter 40 = .ok (.if_icmp .lt 7, 3) := by decide +kernel
theorem dX12_isBetter_43 : decode cX12_isBetter 43 = .ok (.iconst 1, 1) := by decide +kernel
theorem dX12_isBetter_44 : decode cX12_isBetter 44 = .ok (.goto 4, 3) := by decide +kernel
theorem dX12_isBetter_47 : decode cX12_isBetter 47 = .ok (.iconst 0, 1) := by decide +kernel
theorem dX12_isBetter_48 : decode cX12_isBetter 48 = .ok (.if_icmp .eq 6, 3) := by decide +kernel
theorem dX12_isBetter_51 : decode cX12_isBetter 51 = .ok (.iload 5, 2) := by decide +kernel
theorem dX12_isBetter_53 : decode cX12_isBetter 53 = .ok (.ireturn, 1) := by decide +kernel
theorem dX12_isBetter_54 : decode cX12_isBetter 54 = .ok (.iload 5, 2) := by decide +kernel
theorem dX12_isBetter_56 : decode cX12_isBetter 56 = .ok (.ifCond .ne 21, 3) := by decide +kernel
theorem dX12_isBetter_59 : decode cX12_isBetter 59 = .ok (.iload_n 3, 1) := by decide +kernel
theorem dX12_isBetter_60 : decode cX12_isBetter 60 = .ok (.iload 4, 2) := by decide +kernel
theorem dX12_isBetter_62 : decode cX12_isBetter 62 = .ok (.if_icmp .eq 15, 3) := by decide +kernel
theorem dX12_isBetter_65 : decode cX12_isBetter 65 = .ok (.iload_n 3, 1) := by decide +kernel
theorem dX12_isBetter_66 : decode cX12_isBetter 66 = .ok (.iload 4, 2) := by decide +kernel
theorem dX12_isBetter_68 : decode cX12_isBetter 68 = .ok (.if_icmp .le 7, 3) := by decide +kernel
theorem dX12_isBetter_71 : decode cX12_isBetter 71 = .ok (.iconst 1, 1) := by decide +kernel
theorem dX12_isBetter_72 : decode cX12_isBetter 72 = .ok (.goto 4, 3) := by decide +kernel
theorem dX12_isBetter_75 : decode cX12_isBetter 75 = .ok (.iconst 0, 1) := by decide +kernel
theorem dX12_isBetter_76 : decode cX12_isBetter 76 = .ok (.ireturn, 1) := by decide +kernel
theorem dX12_isBetter_77 : decode cX12_isBetter 77 = .ok (.aload_n 0, 1) := by decide +kernel
theorem dX12_isBetter_78 : decode cX12_isBetter 78 = .ok (.iload_n 1, 1) := by decide +kernel
theorem dX12_isBetter_79 : decode cX12_isBetter 79 = .ok (.invokevirtual 467, 3) := by decide +kernel
theorem dX12_isBetter_82 : decode cX12_isBetter 82 = .ok (.aload_n 0, 1) := by decide +kernel
theorem dX12_isBetter_83 : decode cX12_isBetter 83 = .ok (.iload_n 2, 1) := by decide +kernel
theorem dX12_isBetter_84 : decode cX12_isBetter 84 = .ok (.invokevirtual 467, 3) := by decide +kernel
theorem dX12_isBetter_87 : decode cX12_isBetter 87 = .ok (.isub, 1) := by decide +kernel
theorem dX12_isBetter_88 : decode cX12_isBetter 88 = .ok (.istore 6, 2) := by decide +kernel
theorem dX12_isBetter_90 : decode cX12_isBetter 90 = .ok (.iload 6, 2) := by decide +kernel
theorem dX12_isBetter_92 : decode cX12_isBetter 92 = .ok (.ifCond .eq 16, 3) := by decide +kernel
theorem dX12_isBetter_95 : decode cX12_isBetter 95 = .ok (.iload 6, 2) := by decide +kernel
theorem dX12_isBetter_97 : decode cX12_isBetter 97 = .ok (.ifCond .ge 7, 3) := by decide +kernel
theorem dX12_isBetter_100 : decode cX12_isBetter 100 = .ok (.iconst 1, 1) := by decide +kernel
theorem dX12_isBetter_101 : decode cX12_isBetter 101 = .ok (.goto 23, 3) := by decide +kernel
theorem dX12_isBetter_104 : decode cX12_isBetter 104 = .ok (.iconst 0, 1) := by decide +kernel
theorem dX12_isBetter_105 : decode cX12_isBetter 105 = .ok (.goto 19, 3) := by decide +kernel
theorem dX12_isBetter_108 : decode cX12_isBetter 108 = .ok (.iload_n 1, 1) := by decide +kernel
theorem dX12_isBetter_109 : decode cX12_isBetter 109 = .ok (.invokestatic 470, 3) := by decide +kernel
theorem dX12_isBetter_112 : decode cX12_isBetter 112 = .ok (.iload_n 2, 1) := by decide +kernel
theorem dX12_isBetter_113 : decode cX12_isBetter 113 = .ok (.invokestatic 470, 3) := by decide +kernel
theorem dX12_isBetter_116 : decode cX12_isBetter 116 = .ok (.if_icmp .ge 7, 3) := by decide +kernel
theorem dX12_isBetter_119 : decode cX12_isBetter 119 = .ok (.iconst 1, 1) := by decide +kernel
theorem dX12_isBetter_120 : decode cX12_isBetter 120 = .ok (.goto 4, 3) := by decide +kernel
theorem dX12_isBetter_123 : decode cX12_isBetter 123 = .ok (.iconst 0, 1) := by decide +kernel
theorem dX12_isBetter_124 : decode cX12_isBetter 124 = .ok (.ireturn, 1) := by decide +kernel
def f_X12_isBetter_77 (x1 : Int32) (x2 : Int32) (S : Hp) : Option (Int32 × Hp) :=
  ob2 (f_X12_sightBySet x1 S) (fun r1 S1 => ob2 (f_X12_sightBySet x2 S1) (fun r2 S2 => le1 (r1 - r2) (fun v3 => if v3 = 0 then ob2 (f_X12_bits x1 S2) (fun r4 S4 => ob2 (f_X12_bits x2 S4) (fun r5 S5 => if r5 ≤ r4 then some ((0 : Int32), S5) else some ((1 : Int32), S5))) else if 0 ≤ v3 then some ((0 : Int32), S2) else some ((1 : Int32), S2))))
set_option maxHeartbeats 4000000 in
set_option maxRecDepth 100000 in
theorem w_X12_isBetter_77 {p : Program} {l : Launch} {e : Env} {s : State} {m : MethodId} {args : Array Value} {below : List Frame} {meth : Method} {c : Code} {E : Ev} {S0 : Hp} {r : (Int32 × Hp)} (C : ho_I p s m args meth c RX12 cX12_isBetter 7 (some .boolean)) :
    ∀ (x1 : Int32) (x2 : Int32) (S : Hp), f_X12_isBetter_77 x1 x2 S = some r → ho_G p l e s m args below meth c yM E S0 2 7 (some (.int r.1), r.2) 77 [(0, .ref (E.2.1 0)), (1, .int x1), (2, .int x2)] [] S := by
  intro x1 x2 S h H locs ls hR hl
  unfold f_X12_isBetter_77 at h
  refine lv_aload_n C.1 C.2.1 dX12_isBetter_77 rfl (lv_at hl 0 rfl) ?_
  refine lv_iload_n C.1 C.2.1 dX12_isBetter_78 rfl (lv_at hl 1 rfl) ?_
  obtain ⟨r1, S1, h1, h⟩ := ob2_ok h
  refine hr_Vi (v := r1) (S' := S1) (As := [.int x1]) (rest := []) C cf12 (c_X12_sightBySet l E x1 _ _ h1) yv_X12_sightBySet lk_RX12_467 rfl aM_0 rfl rfl hl.1 (Nat.le_of_ble_eq_true rfl) (by decide) (by decide) hR (ho_A hR) dX12_isBetter_79 (fun H locs hR => ?_)
  refine lv_aload_n C.1 C.2.1 dX12_isBetter_82 rfl (lv_at hl 0 rfl) ?_
  refine lv_iload_n C.1 C.2.1 dX12_isBetter_83 rfl (lv_at hl 2 rfl) ?_
  obtain ⟨r2, S2, h2, h⟩ := ob2_ok h
  refine hr_Vi (v := r2) (S' := S2) (As := [.int x2]) (rest := [.int r1]) C cf12 (c_X12_sightBySet l E x2 _ _ h2) yv_X12_sightBySet lk_RX12_467 rfl aM_0 rfl rfl hl.1 (Nat.le_of_ble_eq_true rfl) (by decide) (by decide) hR (ho_A hR) dX12_isBetter_84 (fun H locs hR => ?_)
  refine lv_isub C.1 C.2.1 dX12_isBetter_87 ?_
  refine lv_topi (fun v3 e3 => ?_)
  replace h := le1_at e3 h
  refine lv_istore (lv' := [(6, .int v3), (0, .ref (E.2.1 0)), (1, .int x1), (2, .int x2)]) C.1 C.2.1 dX12_isBetter_88 hl (by decide) rfl (fun ls hl => ?_)
  refine lv_iload C.1 C.2.1 dX12_isBetter_90 (lv_at hl 0 rfl) ?_
  refine lv_if_eq (tgt := 108) C.1 C.2.1 dX12_isBetter_92 (by decide) (fun hc => ?_) (fun hc => ?_)
  · replace h := if_t h hc
    refine lv_iload_n C.1 C.2.1 dX12_isBetter_108 rfl (lv_at hl 2 rfl) ?_
    obtain ⟨r4, S4, h4, h⟩ := ob2_ok h
    refine hr_Si (v := r4) (S' := S4) (As := [.int x1]) (rest := []) C (c_X12_bits l E x1 _ _ h4) ys_X12_bits lk_RX12_470 rfl rfl hl.1 (Nat.le_of_ble_eq_true rfl) (by decide) (by decide) hR (ho_A hR) dX12_isBetter_109 (fun H locs hR => ?_)
    refine lv_iload_n C.1 C.2.1 dX12_isBetter_112 rfl (lv_at hl 3 rfl) ?_
    obtain ⟨r5, S5, h5, h⟩ := ob2_ok h
    refine hr_Si (v := r5) (S' := S5) (As := [.int x2]) (rest := [.int r4]) C (c_X12_bits l E x2 _ _ h5) ys_X12_bits lk_RX12_470 rfl rfl hl.1 (Nat.le_of_ble_eq_true rfl) (by decide) (by decide) hR (ho_A hR) dX12_isBetter_113 (fun H locs hR => ?_)
    refine lv_icmp_ge (tgt := 123) C.1 C.2.1 dX12_isBetter_116 (by decide) (fun hc => ?_) (fun hc => ?_)
    · replace h := if_t h hc
      refine lv_iconst (v := (0 : Int32)) C.1 C.2.1 dX12_isBetter_123 (by decide) ?_
      exact ho_zret C hR (Or.inl rfl) h dX12_isBetter_124
    · replace h := if_f h hc
      refine lv_iconst (v := (1 : Int32)) C.1 C.2.1 dX12_isBetter_119 (by decide) ?_
      refine lv_goto (tgt := 124) C.1 C.2.1 dX12_isBetter_120 (by decide) ?_
      exact ho_zret C hR (Or.inr rfl) h dX12_isBetter_124
  · replace h := if_f h hc
    refine lv_iload C.1 C.2.1 dX12_isBetter_95 (lv_at hl 0 rfl) ?_
    refine lv_if_ge (tgt := 104) C.1 C.2.1 dX12_isBetter_97 (by decide) (fun hc => ?_) (fun hc => ?_)
    · replace h := if_t h hc
      refine lv_iconst (v := (0 : Int32)) C.1 C.2.1 dX12_isBetter_104 (by decide) ?_
      refine lv_goto (tgt := 124) C.1 C.2.1 dX12_isBetter_105 (by decide) ?_
      exact ho_zret C hR (Or.inl rfl) h dX12_isBetter_124
    · replace h := if_f h hc
      refine lv_iconst (v := (1 : Int32)) C.1 C.2.1 dX12_isBetter_100 (by decide) ?_
      refine lv_goto (tgt := 124) C.1 C.2.1 dX12_isBetter_101 (by decide) ?_
      exact ho_zret C hR (Or.inr rfl) h dX12_isBetter_124
def f_X12_isBetter_48 (x1 : Int32) (x2 : Int32) (x3 : Int32) (x4 : Int32) (x5 : Int32) (z0 : Int32) (z1 : Int32) (S : Hp) : Option (Int32 × Hp) :=
  if z0 = z1 then if x5 = 0 then if x3 = x4 then f_X12_isBetter_77 x1 x2 S else if x3 ≤ x4 then some ((0 : Int32), S) else some ((1 : Int32), S) else f_X12_isBetter_77 x1 x2 S else tr x5 (some (x5, S))
set_option maxHeartbeats 4000000 in
set_option maxRecDepth 100000 in
theorem w_X12_isBetter_48 {p : Program} {l : Launch} {e : Env} {s : State} {m : MethodId} {args : Array Value} {below : List Frame} {meth : Method} {c : Code} {E : Ev} {S0 : Hp} {r : (Int32 × Hp)} (C : ho_I p s m args meth c RX12 cX12_isBetter 7 (some .boolean)) :
    ∀ (x1 : Int32) (x2 : Int32) (x3 : Int32) (x4 : Int32) (x5 : Int32) (z0 : Int32) (z1 : Int32) (S : Hp), f_X12_isBetter_48 x1 x2 x3 x4 x5 z0 z1 S = some r → ho_G p l e s m args below meth c yM E S0 2 7 (some (.int r.1), r.2) 48 [(0, .ref (E.2.1 0)), (1, .int x1), (2, .int x2), (3, .int x3), (4, .int x4), (5, .int x5)] [.int z1, .int z0] S := by
  intro x1 x2 x3 x4 x5 z0 z1 S h H locs ls hR hl
  unfold f_X12_isBetter_48 at h
  refine lv_icmp_eq (tgt := 54) C.1 C.2.1 dX12_isBetter_48 (by decide) (fun hc => ?_) (fun hc => ?_)
  · replace h := if_t h hc
    refine lv_iload C.1 C.2.1 dX12_isBetter_54 (lv_at hl 5 rfl) ?_
    refine lv_if_ne (tgt := 77) C.1 C.2.1 dX12_isBetter_56 (by decide) (fun hc => ?_) (fun hc => ?_)
    · replace h := if_f h hc
      exact w_X12_isBetter_77 C x1 x2 S h _ _ _ hR (lv_sub hl [0, 1, 2] rfl)
    · replace h := if_t h hc
      refine lv_iload_n C.1 C.2.1 dX12_isBetter_59 rfl (lv_at hl 3 rfl) ?_
      refine lv_iload C.1 C.2.1 dX12_isBetter_60 (lv_at hl 4 rfl) ?_
      refine lv_icmp_eq (tgt := 77) C.1 C.2.1 dX12_isBetter_62 (by decide) (fun hc => ?_) (fun hc => ?_)
      · replace h := if_t h hc
        exact w_X12_isBetter_77 C x1 x2 S h _ _ _ hR (lv_sub hl [0, 1, 2] rfl)
      · replace h := if_f h hc
        refine lv_iload_n C.1 C.2.1 dX12_isBetter_65 rfl (lv_at hl 3 rfl) ?_
        refine lv_iload C.1 C.2.1 dX12_isBetter_66 (lv_at hl 4 rfl) ?_
        refine lv_icmp_le (tgt := 75) C.1 C.2.1 dX12_isBetter_68 (by decide) (fun hc => ?_) (fun hc => ?_)
        · replace h := if_t h hc
          refine lv_iconst (v := (0 : Int32)) C.1 C.2.1 dX12_isBetter_75 (by decide) ?_
          exact ho_zret C hR (Or.inl rfl) h dX12_isBetter_76
        · replace h := if_f h hc
          refine lv_iconst (v := (1 : Int32)) C.1 C.2.1 dX12_isBetter_71 (by decide) ?_
          refine lv_goto (tgt := 76) C.1 C.2.1 dX12_isBetter_72 (by decide) ?_
          exact ho_zret C hR (Or.inr rfl) h dX12_isBetter_76
  · replace h := if_f h hc
    refine lv_iload C.1 C.2.1 dX12_isBetter_51 (lv_at hl 5 rfl) ?_
    obtain ⟨hz, h⟩ := tr_ok h
    exact ho_zret C hR hz h dX12_isBetter_53
def f_X12_isBetter_28 (x1 : Int32) (x2 : Int32) (x3 : Int32) (x4 : Int32) (z0 : Int32) (S : Hp) : Option (Int32 × Hp) :=
  ldI S 43 6 (3 : Int32) (fun v1 => if x4 < v1 then f_X12_isBetter_48 x1 x2 x3 x4 z0 z0 (0 : Int32) S else f_X12_isBetter_48 x1 x2 x3 x4 z0 z0 (1 : Int32) S)
set_option maxHeartbeats 4000000 in
set_option maxRecDepth 100000 in
theorem w_X12_isBetter_28 {p : Program} {l : Launch} {e : Env} {s : State} {m : MethodId} {args : Array Value} {below : List Frame} {meth : Method} {c : Code} {E : Ev} {S0 : Hp} {r : (Int32 × Hp)} (C : ho_I p s m args meth c RX12 cX12_isBetter 7 (some .boolean)) :
    ∀ (x1 : Int32) (x2 : Int32) (x3 : Int32) (x4 : Int32) (z0 : Int32) (S : Hp), f_X12_isBetter_28 x1 x2 x3 x4 z0 S = some r → ho_G p l e s m args below meth c yM E S0 2 7 (some (.int r.1), r.2) 28 [(0, .ref (E.2.1 0)), (1, .int x1), (2, .int x2), (3, .int x3), (4, .int x4)] [.int z0] S := by
  intro x1 x2 x3 x4 z0 S h H locs ls hR hl
  unfold f_X12_isBetter_28 at h
  refine lv_istore (lv' := [(5, .int z0), (0, .ref (E.2.1 0)), (1, .int x1), (2, .int x2), (3, .int x3), (4, .int x4)]) C.1 C.2.1 dX12_isBetter_28 hl (by decide) rfl (fun ls hl => ?_)
  refine lv_iload C.1 C.2.1 dX12_isBetter_30 (lv_at hl 0 rfl) ?_
  refine lv_iload C.1 C.2.1 dX12_isBetter_32 (lv_at hl 5 rfl) ?_
  refine lv_aload_n C.1 C.2.1 dX12_isBetter_34 rfl (lv_at hl 1 rfl) ?_
  refine ho_getR (a' := 43) C cf12 fM_115 hR aM_0 rfl dX12_isBetter_35 ?_
  refine lv_iconst (v := (3 : Int32)) C.1 C.2.1 dX12_isBetter_38 (by decide) ?_
  obtain ⟨v1, e1, hi1, h⟩ := ldI_ok h
  refine hr_ild C hR aM_43 hi1 e1 dX12_isBetter_39 ?_
  refine lv_icmp_lt (tgt := 47) C.1 C.2.1 dX12_isBetter_40 (by decide) (fun hc => ?_) (fun hc => ?_)
  · replace h := if_t h hc
    refine lv_iconst (v := (0 : Int32)) C.1 C.2.1 dX12_isBetter_47 (by decide) ?_
    exact w_X12_isBetter_48 C x1 x2 x3 x4 z0 z0 (0 : Int32) S h _ _ _ hR (lv_sub hl [1, 2, 3, 4, 5, 0] rfl)
  · replace h := if_f h hc
    refine lv_iconst (v := (1 : Int32)) C.1 C.2.1 dX12_isBetter_43 (by decide) ?_
    refine lv_goto (tgt := 48) C.1 C.2.1 dX12_isBetter_44 (by decide) ?_
    exact w_X12_isBetter_48 C x1 x2 x3 x4 z0 z0 (1 : Int32) S h _ _ _ hR (lv_sub hl [1, 2, 3, 4, 5, 0] rfl)
def f_X12_isBetter (x1 : Int32) (x2 : Int32) (S : Hp) : Option (Int32 × Hp) :=
  ob2 (f_X12_appearsBy x1 S) (fun r1 S1 => ob2 (f_X12_appearsBy x2 S1) (fun r2 S2 => ldI S2 43 6 (3 : Int32) (fun v3 => if r1 < v3 then f_X12_isBetter_28 x1 x2 r1 r2 (0 : Int32) S2 else f_X12_isBetter_28 x1 x2 r1 r2 (1 : Int32) S2)))
set_option maxHeartbeats 4000000 in
set_option maxRecDepth 100000 in
theorem c_X12_isBetter (l : Launch) (E : Ev) (x1 : Int32) (x2 : Int32) (S : Hp) (r : (Int32 × Hp)) (h : f_X12_isBetter x1 x2 S = some r) : ho_M l yM E yX12_isBetter cX12_isBetter 7 (some .boolean) 2 [.ref (E.2.1 0), .int x1, .int x2] S (some (.int r.1), r.2) := by
  refine ho_in (by decide) (Nat.le_of_ble_eq_true rfl) ?_
  intro p e s m args below meth c C hR ls hl
  have C : ho_I p s m args meth c RX12 cX12_isBetter 7 (some .boolean) := C
  have hl : lv_has ls 7 [(0, .ref (E.2.1 0)), (1, .int x1), (2, .int x2)] := hl
  unfold f_X12_isBetter at h
  refine lv_aload_n C.1 C.2.1 dX12_isBetter_0 rfl (lv_at hl 0 rfl) ?_
  refine lv_iload_n C.1 C.2.1 dX12_isBetter_1 rfl (lv_at hl 1 rfl) ?_
  obtain ⟨r1, S1, h1, h⟩ := ob2_ok h
  refine hr_Vi (v := r1) (S' := S1) (As := [.int x1]) (rest := []) C cf12 (c_X12_appearsBy l E x1 _ _ h1) yv_X12_appearsBy lk_RX12_464 rfl aM_0 rfl rfl hl.1 (Nat.le_of_ble_eq_true rfl) (by decide) (by decide) hR (ho_A hR) dX12_isBetter_2 (fun H locs hR => ?_)
  refine lv_istore_n (lv' := [(3, .int r1), (0, .ref (E.2.1 0)), (1, .int x1), (2, .int x2)]) C.1 C.2.1 dX12_isBetter_5 rfl hl (by decide) rfl (fun ls hl => ?_)
  refine lv_aload_n C.1 C.2.1 dX12_isBetter_6 rfl (lv_at hl 1 rfl) ?_
  refine lv_iload_n C.1 C.2.1 dX12_isBetter_7 rfl (lv_at hl 3 rfl) ?_
  obtain ⟨r2, S2, h2, h⟩ := ob2_ok h
  refine hr_Vi (v := r2) (S' := S2) (As := [.int x2]) (rest := []) C cf12 (c_X12_appearsBy l E x2 _ _ h2) yv_X12_appearsBy lk_RX12_464 rfl aM_0 rfl rfl hl.1 (Nat.le_of_ble_eq_true rfl) (by decide) (by decide) hR (ho_A hR) dX12_isBetter_8 (fun H locs hR => ?_)
  refine lv_istore (lv' := [(4, .int r2), (3, .int r1), (0, .ref (E.2.1 0)), (1, .int x1), (2, .int x2)]) C.1 C.2.1 dX12_isBetter_11 hl (by decide) rfl (fun ls hl => ?_)
  refine lv_iload_n C.1 C.2.1 dX12_isBetter_13 rfl (lv_at hl 1 rfl) ?_
  refine lv_aload_n C.1 C.2.1 dX12_isBetter_14 rfl (lv_at hl 2 rfl) ?_
  refine ho_getR (a' := 43) C cf12 fM_115 hR aM_0 rfl dX12_isBetter_15 ?_
  refine lv_iconst (v := (3 : Int32)) C.1 C.2.1 dX12_isBetter_18 (by decide) ?_
  obtain ⟨v3, e3, hi3, h⟩ := ldI_ok h
  refine hr_ild C hR aM_43 hi3 e3 dX12_isBetter_19 ?_
  refine lv_icmp_lt (tgt := 27) C.1 C.2.1 dX12_isBetter_20 (by decide) (fun hc => ?_) (fun hc => ?_)
  · replace h := if_t h hc
    refine lv_iconst (v := (0 : Int32)) C.1 C.2.1 dX12_isBetter_27 (by decide) ?_
    exact w_X12_isBetter_28 C x1 x2 r1 r2 (0 : Int32) S2 h _ _ _ hR (lv_sub hl [2, 3, 4, 1, 0] rfl)
  · replace h := if_f h hc
    refine lv_iconst (v := (1 : Int32)) C.1 C.2.1 dX12_isBetter_23 (by decide) ?_
    refine lv_goto (tgt := 28) C.1 C.2.1 dX12_isBetter_24 (by decide) ?_
    exact w_X12_isBetter_28 C x1 x2 r1 r2 (1 : Int32) S2 h _ _ _ hR (lv_sub hl [2, 3, 4, 1, 0] rfl)
theorem dX12_bestShow_0 : decode cX12_bestShow 0 = .ok (.aload_n 0, 1) := by decide +kernel
theorem dX12_bestShow_1 : decode cX12_bestShow 1 = .ok (.invokevirtual 473, 3) := by decide +kernel
theorem dX12_bestShow_4 : decode cX12_bestShow 4 = .ok (.iconst 0, 1) := by decide +kernel
theorem dX12_bestShow_5 : decode cX12_bestShow 5 = .ok (.istore_n 1, 1) := by decide +kernel
theorem dX12_bestShow_6 : decode cX12_bestShow 6 = .ok (.iconst 1, 1) := by decide +kernel
theorem dX12_bestShow_7 : decode cX12_bestShow 7 = .ok (.istore_n 2, 1) := by decide +kernel
theorem dX12_bestShow_8 : decode cX12_bestShow 8 = .ok (.iload_n 2, 1) := by decide +kernel
theorem dX12_bestShow_9 : decode cX12_bestShow 9 = .ok (.aload_n 0, 1) := by decide +kernel
theorem dX12_bestShow_10 : decode cX12_bestShow 10 = .ok (.invokevirtual 452, 3) := by decide +kernel
theorem dX12_bestShow_13 : decode cX12_bestShow 13 = .ok (.if_icmp .gt 28, 3) := by decide +kernel
theorem dX12_bestShow_16 : decode cX12_bestShow 16 = .ok (.aload_n 0, 1) := by decide +kernel
theorem dX12_bestShow_17 : decode cX12_bestShow 17 = .ok (.iload_n 2, 1) := by decide +kernel
theorem dX12_bestShow_18 : decode cX12_bestShow 18 = .ok (.invokevirtual 476, 3) := by decide +kernel
theorem dX12_bestShow_21 : decode cX12_bestShow 21 = .ok (.ifCond .eq 14, 3) := by decide +kernel
theorem dX12_bestShow_24 : decode cX12_bestShow 24 = .ok (.aload_n 0, 1) := by decide +kernel
theorem dX12_bestShow_25 : decode cX12_bestShow 25 = .ok (.iload_n 2, 1) := by decide +kernel
theorem dX12_bestShow_26 : decode cX12_bestShow 26 = .ok (.iload_n 1, 1) := by decide +kernel
theorem dX12_bestShow_27 : decode cX12_bestShow 27 = .ok (.invokevirtual 479, 3) := by decide +kernel
theorem dX12_bestShow_30 : decode cX12_bestShow 30 = .ok (.ifCond .eq 5, 3) := by decide +kernel
theorem dX12_bestShow_33 : decode cX12_bestShow 33 = .ok (.iload_n 2, 1) := by decide +kernel
theorem dX12_bestShow_34 : decode cX12_bestShow 34 = .ok (.istore_n 1, 1) := by decide +kernel
theorem dX12_bestShow_35 : decode cX12_bestShow 35 = .ok (.iinc 2 1, 3) := by decide +kernel
theorem dX12_bestShow_38 : decode cX12_bestShow 38 = .ok (.goto (-30), 3) := by decide +kernel
theorem dX12_bestShow_41 : decode cX12_bestShow 41 = .ok (.iload_n 1, 1) := by decide +kernel
theorem dX12_bestShow_42 : decode cX12_bestShow 42 = .ok (.ireturn, 1) := by decide +kernel
def f_X12_bestShow_35 (K8 : Int32 → Int32 → Hp → Option (Int32 × Hp)) (x1 : Int32) (x2 : Int32) (S : Hp) : Option (Int32 × Hp) :=
  le1 (x2 + (1 : Int32)) (fun v1 => K8 x1 v1 S)
set_option maxHeartbeats 4000000 in
set_option maxRecDepth 100000 in
theorem w_X12_bestShow_35 {p : Program} {l : Launch} {e : Env} {s : State} {m : MethodId} {args : Array Value} {below : List Frame} {meth : Method} {c : Code} {E : Ev} {S0 : Hp} {r : (Int32 × Hp)} (C : ho_I p s m args meth c RX12 cX12_bestShow 3 (some .int)) (K8 : Int32 → Int32 → Hp → Option (Int32 × Hp)) (hK8 : ∀ (y1 : Int32) (y2 : Int32) (S : Hp), K8 y1 y2 S = some r → ho_G p l e s m args below meth c yM E S0 6 3 (some (.int r.1), r.2) 8 [(0, .ref (E.2.1 0)), (1, .int y1), (2, .int y2)] [] S) :
    ∀ (x1 : Int32) (x2 : Int32) (S : Hp), f_X12_bestShow_35 K8 x1 x2 S = some r → ho_G p l e s m args below meth c yM E S0 6 3 (some (.int r.1), r.2) 35 [(0, .ref (E.2.1 0)), (1, .int x1), (2, .int x2)] [] S := by
  intro x1 x2 S h H locs ls hR hl
  unfold f_X12_bestShow_35 at h
  obtain ⟨v1, e1, h⟩ := le1_ok h
  refine lv_iinc (v := v1) (lv' := [(2, .int v1), (0, .ref (E.2.1 0)), (1, .int x1)]) C.1 C.2.1 dX12_bestShow_35 hl (k := 2) rfl (by rw [e1]; rfl) (by decide) rfl (fun ls hl => ?_)
  refine lv_goto (tgt := 8) C.1 C.2.1 dX12_bestShow_38 (by decide) ?_
  exact hK8 x1 v1 S h _ _ _ hR (lv_sub hl [1, 2, 0] rfl)
def f_X12_bestShow_8 : Nat → Int32 → Int32 → Hp → Option (Int32 × Hp)
  | 0, _, _, _ => none
  | k + 1, x1, x2, S => ob2 (f_X12_allTricks S) (fun r1 S1 => if r1 < x2 then some (x1, S1) else ob2 (f_X12_canShow x2 S1) (fun r2 S2 => if r2 = 0 then f_X12_bestShow_35 (f_X12_bestShow_8 k) x1 x2 S2 else ob2 (f_X12_isBetter x2 x1 S2) (fun r3 S3 => if r3 = 0 then f_X12_bestShow_35 (f_X12_bestShow_8 k) x1 x2 S3 else f_X12_bestShow_35 (f_X12_bestShow_8 k) x2 x2 S3)))
set_option maxHeartbeats 4000000 in
set_option maxRecDepth 100000 in
theorem w_X12_bestShow_8 {p : Program} {l : Launch} {e : Env} {s : State} {m : MethodId} {args : Array Value} {below : List Frame} {meth : Method} {c : Code} {E : Ev} {S0 : Hp} {r : (Int32 × Hp)} (C : ho_I p s m args meth c RX12 cX12_bestShow 3 (some .int)) :
    ∀ (k : Nat) (x1 : Int32) (x2 : Int32) (S : Hp), f_X12_bestShow_8 k x1 x2 S = some r → ho_G p l e s m args below meth c yM E S0 6 3 (some (.int r.1), r.2) 8 [(0, .ref (E.2.1 0)), (1, .int x1), (2, .int x2)] [] S := by
  intro k
  induction k with
  | zero =>
    intro x1 x2 S h
    exact absurd (show (none : Option (Int32 × Hp)) = some r from h) (by simp)
  | succ k ih =>
    intro x1 x2 S h H locs ls hR hl
    rw [f_X12_bestShow_8] at h
    refine lv_iload_n C.1 C.2.1 dX12_bestShow_8 rfl (lv_at hl 2 rfl) ?_
    refine lv_aload_n C.1 C.2.1 dX12_bestShow_9 rfl (lv_at hl 0 rfl) ?_
    obtain ⟨r1, S1, h1, h⟩ := ob2_ok h
    refine hr_Vi (v := r1) (S' := S1) (As := []) (rest := [.int x2]) C cf12 (c_X12_allTricks l E _ _ h1) yv_X12_allTricks lk_RX12_452 rfl aM_0 rfl rfl hl.1 (Nat.le_of_ble_eq_true rfl) (by decide) (by decide) hR (ho_A hR) dX12_bestShow_10 (fun H locs hR => ?_)
    refine lv_icmp_gt (tgt := 41) C.1 C.2.1 dX12_bestShow_13 (by decide) (fun hc => ?_) (fun hc => ?_)
    · replace h := if_t h hc
      refine lv_iload_n C.1 C.2.1 dX12_bestShow_41 rfl (lv_at hl 1 rfl) ?_
      exact ho_iret C hR h dX12_bestShow_42
    · replace h := if_f h hc
      refine lv_aload_n C.1 C.2.1 dX12_bestShow_16 rfl (lv_at hl 0 rfl) ?_
      refine lv_iload_n C.1 C.2.1 dX12_bestShow_17 rfl (lv_at hl 2 rfl) ?_
      obtain ⟨r2, S2, h2, h⟩ := ob2_ok h
      refine hr_Vi (v := r2) (S' := S2) (As := [.int x2]) (rest := []) C cf12 (c_X12_canShow l E x2 _ _ h2) yv_X12_canShow lk_RX12_476 rfl aM_0 rfl rfl hl.1 (Nat.le_of_ble_eq_true rfl) (by decide) (by decide) hR (ho_A hR) dX12_bestShow_18 (fun H locs hR => ?_)
      refine lv_if_eq (tgt := 35) C.1 C.2.1 dX12_bestShow_21 (by decide) (fun hc => ?_) (fun hc => ?_)
      · replace h := if_t h hc
        exact w_X12_bestShow_35 C (f_X12_bestShow_8 k) ih x1 x2 S2 h _ _ _ hR (lv_sub hl [0, 1, 2] rfl)
      · replace h := if_f h hc
        refine lv_aload_n C.1 C.2.1 dX12_bestShow_24 rfl (lv_at hl 0 rfl) ?_
        refine lv_iload_n C.1 C.2.1 dX12_bestShow_25 rfl (lv_at hl 2 rfl) ?_
        refine lv_iload_n C.1 C.2.1 dX12_bestShow_26 rfl (lv_at hl 1 rfl) ?_
        obtain ⟨r3, S3, h3, h⟩ := ob2_ok h
        refine hr_Vi (v := r3) (S' := S3) (As := [.int x2, .int x1]) (rest := []) C cf12 (c_X12_isBetter l E x2 x1 _ _ h3) yv_X12_isBetter lk_RX12_479 rfl aM_0 rfl rfl hl.1 (Nat.le_of_ble_eq_true rfl) (by decide) (by decide) hR (ho_A hR) dX12_bestShow_27 (fun H locs hR => ?_)
        refine lv_if_eq (tgt := 35) C.1 C.2.1 dX12_bestShow_30 (by decide) (fun hc => ?_) (fun hc => ?_)
        · replace h := if_t h hc
          exact w_X12_bestShow_35 C (f_X12_bestShow_8 k) ih x1 x2 S3 h _ _ _ hR (lv_sub hl [0, 1, 2] rfl)
        · replace h := if_f h hc
          refine lv_iload_n C.1 C.2.1 dX12_bestShow_33 rfl (lv_at hl 2 rfl) ?_
          refine lv_istore_n (lv' := [(1, .int x2), (0, .ref (E.2.1 0)), (2, .int x2)]) C.1 C.2.1 dX12_bestShow_34 rfl hl (by decide) rfl (fun ls hl => ?_)
          exact w_X12_bestShow_35 C (f_X12_bestShow_8 k) ih x2 x2 S3 h _ _ _ hR (lv_sub hl [1, 0, 2] rfl)
def f_X12_bestShow (S : Hp) : Option (Int32 × Hp) :=
  ob (f_X12_laysSights S) (fun S1 => f_X12_bestShow_8 5000 (0 : Int32) (1 : Int32) S1)
set_option maxHeartbeats 4000000 in
set_option maxRecDepth 100000 in
theorem c_X12_bestShow (l : Launch) (E : Ev) (S : Hp) (r : (Int32 × Hp)) (h : f_X12_bestShow S = some r) : ho_M l yM E yX12_bestShow cX12_bestShow 3 (some .int) 6 [.ref (E.2.1 0)] S (some (.int r.1), r.2) := by
  refine ho_in (by decide) (Nat.le_of_ble_eq_true rfl) ?_
  intro p e s m args below meth c C hR ls hl
  have C : ho_I p s m args meth c RX12 cX12_bestShow 3 (some .int) := C
  have hl : lv_has ls 3 [(0, .ref (E.2.1 0))] := hl
  unfold f_X12_bestShow at h
  refine lv_aload_n C.1 C.2.1 dX12_bestShow_0 rfl (lv_at hl 0 rfl) ?_
  obtain ⟨S1, h1, h⟩ := ob_ok h
  refine hr_Vv (S' := S1) (As := []) (rest := []) C cf12 (c_X12_laysSights l E _ _ h1) yv_X12_laysSights lk_RX12_473 rfl aM_0 rfl rfl hl.1 (Nat.le_of_ble_eq_true rfl) (by decide) (by decide) hR (ho_A hR) dX12_bestShow_1 (fun H locs hR => ?_)
  refine lv_iconst (v := (0 : Int32)) C.1 C.2.1 dX12_bestShow_4 (by decide) ?_
  refine lv_istore_n (lv' := [(1, .int (0 : Int32)), (0, .ref (E.2.1 0))]) C.1 C.2.1 dX12_bestShow_5 rfl hl (by decide) rfl (fun ls hl => ?_)
  refine lv_iconst (v := (1 : Int32)) C.1 C.2.1 dX12_bestShow_6 (by decide) ?_
  refine lv_istore_n (lv' := [(2, .int (1 : Int32)), (1, .int (0 : Int32)), (0, .ref (E.2.1 0))]) C.1 C.2.1 dX12_bestShow_7 rfl hl (by decide) rfl (fun ls hl => ?_)
  exact w_X12_bestShow_8 C 5000 (0 : Int32) (1 : Int32) S1 h _ _ _ hR (lv_sub hl [2, 1, 0] rfl)
theorem dX12_isKept_0 : decode cX12_isKept 0 = .ok (.aload_n 0, 1) := by decide +kernel
theorem dX12_isKept_1 : decode cX12_isKept 1 = .ok (.getfield 483, 3) := by decide +kernel
theorem dX12_isKept_4 : decode cX12_isKept 4 = .ok (.ifCond .eq 4, 3) := by decide +kernel
theorem dX12_isKept_7 : decode cX12_isKept 7 = .ok (.return_, 1) := by decide +kernel
theorem dX12_isKept_8 : decode cX12_isKept 8 = .ok (.aload_n 0, 1) := by decide +kernel
theorem dX12_isKept_9 : decode cX12_isKept 9 = .ok (.getfield 139, 3) := by decide +kernel
theorem dX12_isKept_12 : decode cX12_isKept 12 = .ok (.bipush 26, 2) := by decide +kernel
theorem dX12_isKept_14 : decode cX12_isKept 14 = .ok (.iaload, 1) := by decide +kernel
theorem dX12_isKept_15 : decode cX12_isKept 15 = .ok (.bipush 30, 2) := by decide +kernel
theorem dX12_isKept_17 : decode cX12_isKept 17 = .ok (.if_icmp .ne 35, 3) := by decide +kernel
theorem dX12_isKept_20 : decode cX12_isKept 20 = .ok (.bipush 27, 2) := by decide +kernel
theorem dX12_isKept_22 : decode cX12_isKept 22 = .ok (.istore_n 2, 1) := by decide +kernel
theorem dX12_isKept_23 : decode cX12_isKept 23 = .ok (.iload_n 2, 1) := by decide +kernel
theorem dX12_isKept_24 : decode cX12_isKept 24 = .ok (.bipush 114, 2) := by decide +kernel
theorem dX12_isKept_26 : decode cX12_isKept 26 = .ok (.if_icmp .ge 23, 3) := by decide +kernel
theorem dX12_isKept_29 : decode cX12_isKept 29 = .ok (.aload_n 0, 1) := by decide +kernel
theorem dX12_isKept_30 : decode cX12_isKept 30 = .ok (.getfield 139, 3) := by decide +kernel
theorem dX12_isKept_33 : decode cX12_isKept 33 = .ok (.iload_n 2, 1) := by decide +kernel
theorem dX12_isKept_34 : decode cX12_isKept 34 = .ok (.aload_n 0, 1) := by decide +kernel
theorem dX12_isKept_35 : decode cX12_isKept 35 = .ok (.getfield 139, 3) := by decide +kernel
theorem dX12_isKept_38 : decode cX12_isKept 38 = .ok (.iload_n 2, 1) := by decide +kernel
theorem dX12_isKept_39 : decode cX12_isKept 39 = .ok (.iconst 3, 1) := by decide +kernel
theorem dX12_isKept_40 : decode cX12_isKept 40 = .ok (.iadd, 1) := by decide +kernel
theorem dX12_isKept_41 : decode cX12_isKept 41 = .ok (.iaload, 1) := by decide +kernel
theorem dX12_isKept_42 : decode cX12_isKept 42 = .ok (.iastore, 1) := by decide +kernel
theorem dX12_isKept_43 : decode cX12_isKept 43 = .ok (.iinc 2 1, 3) := by decide +kernel
theorem dX12_isKept_46 : decode cX12_isKept 46 = .ok (.goto (-23), 3) := by decide +kernel
theorem dX12_isKept_49 : decode cX12_isKept 49 = .ok (.goto 14, 3) := by decide +kernel
theorem dX12_isKept_52 : decode cX12_isKept 52 = .ok (.aload_n 0, 1) := by decide +kernel
theorem dX12_isKept_53 : decode cX12_isKept 53 = .ok (.getfield 139, 3) := by decide +kernel
theorem dX12_isKept_56 : decode cX12_isKept 56 = .ok (.bipush 26, 2) := by decide +kernel
theorem dX12_isKept_58 : decode cX12_isKept 58 = .ok (.dup2, 1) := by decide +kernel
theorem dX12_isKept_59 : decode cX12_isKept 59 = .ok (.iaload, 1) := by decide +kernel
theorem dX12_isKept_60 : decode cX12_isKept 60 = .ok (.iconst 1, 1) := by decide +kernel
theorem dX12_isKept_61 : decode cX12_isKept 61 = .ok (.iadd, 1) := by decide +kernel
theorem dX12_isKept_62 : decode cX12_isKept 62 = .ok (.iastore, 1) := by decide +kernel
theorem dX12_isKept_63 : decode cX12_isKept 63 = .ok (.bipush 27, 2) := by decide +kernel
theorem dX12_isKept_65 : decode cX12_isKept 65 = .ok (.iconst 3, 1) := by decide +kernel
theorem dX12_isKept_66 : decode cX12_isKept 66 = .ok (.aload_n 0, 1) := by decide +kernel
theorem dX12_isKept_67 : decode cX12_isKept 67 = .ok (.getfield 139, 3) := by decide +kernel
theorem dX12_isKept_70 : decode cX12_isKept 70 = .ok (.bipush 26, 2) := by decide +kernel
theorem dX12_isKept_72 : decode cX12_isKept 72 = .ok (.iaload, 1) := by decide +kernel
theorem dX12_isKept_73 : decode cX12_isKept 73 = .ok (.imul, 1) := by decide +kernel
theorem dX12_isKept_74 : decode cX12_isKept 74 = .ok (.iadd, 1) := by decide +kernel
theorem dX12_isKept_75 : decode cX12_isKept 75 = .ok (.iconst 3, 1) := by decide +kernel
theorem dX12_isKept_76 : decode cX12_isKept 76 = .ok (.isub, 1) := by decide +kernel
theorem dX12_isKept_77 : decode cX12_isKept 77 = .ok (.istore_n 2, 1) := by decide +kernel
theorem dX12_isKept_78 : decode cX12_isKept 78 = .ok (.aload_n 0, 1) := by decide +kernel
theorem dX12_isKept_79 : decode cX12_isKept 79 = .ok (.getfield 139, 3) := by decide +kernel
theorem dX12_isKept_82 : decode cX12_isKept 82 = .ok (.iload_n 2, 1) := by decide +kernel
theorem dX12_isKept_83 : decode cX12_isKept 83 = .ok (.aload_n 0, 1) := by decide +kernel
theorem dX12_isKept_84 : decode cX12_isKept 84 = .ok (.getfield 139, 3) := by decide +kernel
theorem dX12_isKept_87 : decode cX12_isKept 87 = .ok (.iconst 0, 1) := by decide +kernel
theorem dX12_isKept_88 : decode cX12_isKept 88 = .ok (.iaload, 1) := by decide +kernel
theorem dX12_isKept_89 : decode cX12_isKept 89 = .ok (.iastore, 1) := by decide +kernel
theorem dX12_isKept_90 : decode cX12_isKept 90 = .ok (.aload_n 0, 1) := by decide +kernel
theorem dX12_isKept_91 : decode cX12_isKept 91 = .ok (.getfield 139, 3) := by decide +kernel
theorem dX12_isKept_94 : decode cX12_isKept 94 = .ok (.iload_n 2, 1) := by decide +kernel
theorem dX12_isKept_95 : decode cX12_isKept 95 = .ok (.iconst 1, 1) := by decide +kernel
theorem dX12_isKept_96 : decode cX12_isKept 96 = .ok (.iadd, 1) := by decide +kernel
theorem dX12_isKept_97 : decode cX12_isKept 97 = .ok (.iload_n 1, 1) := by decide +kernel
theorem dX12_isKept_98 : decode cX12_isKept 98 = .ok (.iastore, 1) := by decide +kernel
theorem dX12_isKept_99 : decode cX12_isKept 99 = .ok (.aload_n 0, 1) := by decide +kernel
theorem dX12_isKept_100 : decode cX12_isKept 100 = .ok (.getfield 139, 3) := by decide +kernel
theorem dX12_isKept_103 : decode cX12_isKept 103 = .ok (.iload_n 2, 1) := by decide +kernel
theorem dX12_isKept_104 : decode cX12_isKept 104 = .ok (.iconst 2, 1) := by decide +kernel
theorem dX12_isKept_105 : decode cX12_isKept 105 = .ok (.iadd, 1) := by decide +kernel
theorem dX12_isKept_106 : decode cX12_isKept 106 = .ok (.aload_n 0, 1) := by decide +kernel
theorem dX12_isKept_107 : decode cX12_isKept 107 = .ok (.getfield 139, 3) := by decide +kernel
theorem dX12_isKept_110 : decode cX12_isKept 110 = .ok (.iconst 2, 1) := by decide +kernel
theorem dX12_isKept_111 : decode cX12_isKept 111 = .ok (.iaload, 1) := by decide +kernel
theorem dX12_isKept_112 : decode cX12_isKept 112 = .ok (.iastore, 1) := by decide +kernel
theorem dX12_isKept_113 : decode cX12_isKept 113 = .ok (.return_, 1) := by decide +kernel
def f_X12_isKept_63 (x1 : Int32) (S : Hp) : Option Hp :=
  ldI S 55 117 (26 : Int32) (fun v1 => le1 (((27 : Int32) + ((3 : Int32) * v1)) - (3 : Int32)) (fun v2 => ldI S 55 117 (0 : Int32) (fun v3 => stI S 55 117 v2 v3 (fun S4 => stI S4 55 117 (v2 + (1 : Int32)) x1 (fun S5 => ldI S5 55 117 (2 : Int32) (fun v6 => stI S5 55 117 (v2 + (2 : Int32)) v6 (fun S7 => some S7)))))))
set_option maxHeartbeats 4000000 in
set_option maxRecDepth 100000 in
theorem w_X12_isKept_63 {p : Program} {l : Launch} {e : Env} {s : State} {m : MethodId} {args : Array Value} {below : List Frame} {meth : Method} {c : Code} {E : Ev} {S0 : Hp} {r : Hp} (C : ho_I p s m args meth c RX12 cX12_isKept 3 none) :
    ∀ (x1 : Int32) (S : Hp), f_X12_isKept_63 x1 S = some r → ho_G p l e s m args below meth c yM E S0 0 3 (none, r) 63 [(0, .ref (E.2.1 0)), (1, .int x1)] [] S := by
  intro x1 S h H locs ls hR hl
  unfold f_X12_isKept_63 at h
  refine lv_bipush (v := (27 : Int32)) C.1 C.2.1 dX12_isKept_63 (by decide) ?_
  refine lv_iconst (v := (3 : Int32)) C.1 C.2.1 dX12_isKept_65 (by decide) ?_
  refine lv_aload_n C.1 C.2.1 dX12_isKept_66 rfl (lv_at hl 0 rfl) ?_
  refine ho_getR (a' := 55) C cf12 fM_139 hR aM_0 rfl dX12_isKept_67 ?_
  refine lv_bipush (v := (26 : Int32)) C.1 C.2.1 dX12_isKept_70 (by decide) ?_
  obtain ⟨v1, e1, hi1, h⟩ := ldI_ok h
  refine hr_ild C hR aM_55 hi1 e1 dX12_isKept_72 ?_
  refine lv_imul C.1 C.2.1 dX12_isKept_73 ?_
  refine lv_iadd C.1 C.2.1 dX12_isKept_74 ?_
  refine lv_iconst (v := (3 : Int32)) C.1 C.2.1 dX12_isKept_75 (by decide) ?_
  refine lv_isub C.1 C.2.1 dX12_isKept_76 ?_
  refine lv_topi (fun v2 e2 => ?_)
  replace h := le1_at e2 h
  refine lv_istore_n (lv' := [(2, .int v2), (0, .ref (E.2.1 0)), (1, .int x1)]) C.1 C.2.1 dX12_isKept_77 rfl hl (by decide) rfl (fun ls hl => ?_)
  refine lv_aload_n C.1 C.2.1 dX12_isKept_78 rfl (lv_at hl 1 rfl) ?_
  refine ho_getR (a' := 55) C cf12 fM_139 hR aM_0 rfl dX12_isKept_79 ?_
  refine lv_iload_n C.1 C.2.1 dX12_isKept_82 rfl (lv_at hl 0 rfl) ?_
  refine lv_aload_n C.1 C.2.1 dX12_isKept_83 rfl (lv_at hl 1 rfl) ?_
  refine ho_getR (a' := 55) C cf12 fM_139 hR aM_0 rfl dX12_isKept_84 ?_
  refine lv_iconst (v := (0 : Int32)) C.1 C.2.1 dX12_isKept_87 (by decide) ?_
  obtain ⟨v3, e3, hi3, h⟩ := ldI_ok h
  refine hr_ild C hR aM_55 hi3 e3 dX12_isKept_88 ?_
  obtain ⟨S4, e4, hi4, h⟩ := stI_ok h
  refine hr_ist C hR aM_55 hi4 e4 dX12_isKept_89 (fun H locs hR => ?_)
  refine lv_aload_n C.1 C.2.1 dX12_isKept_90 rfl (lv_at hl 1 rfl) ?_
  refine ho_getR (a' := 55) C cf12 fM_139 hR aM_0 rfl dX12_isKept_91 ?_
  refine lv_iload_n C.1 C.2.1 dX12_isKept_94 rfl (lv_at hl 0 rfl) ?_
  refine lv_iconst (v := (1 : Int32)) C.1 C.2.1 dX12_isKept_95 (by decide) ?_
  refine lv_iadd C.1 C.2.1 dX12_isKept_96 ?_
  refine lv_iload_n C.1 C.2.1 dX12_isKept_97 rfl (lv_at hl 2 rfl) ?_
  obtain ⟨S5, e5, hi5, h⟩ := stI_ok h
  refine hr_ist C hR aM_55 hi5 e5 dX12_isKept_98 (fun H locs hR => ?_)
  refine lv_aload_n C.1 C.2.1 dX12_isKept_99 rfl (lv_at hl 1 rfl) ?_
  refine ho_getR (a' := 55) C cf12 fM_139 hR aM_0 rfl dX12_isKept_100 ?_
  refine lv_iload_n C.1 C.2.1 dX12_isKept_103 rfl (lv_at hl 0 rfl) ?_
  refine lv_iconst (v := (2 : Int32)) C.1 C.2.1 dX12_isKept_104 (by decide) ?_
  refine lv_iadd C.1 C.2.1 dX12_isKept_105 ?_
  refine lv_aload_n C.1 C.2.1 dX12_isKept_106 rfl (lv_at hl 1 rfl) ?_
  refine ho_getR (a' := 55) C cf12 fM_139 hR aM_0 rfl dX12_isKept_107 ?_
  refine lv_iconst (v := (2 : Int32)) C.1 C.2.1 dX12_isKept_110 (by decide) ?_
  obtain ⟨v6, e6, hi6, h⟩ := ldI_ok h
  refine hr_ild C hR aM_55 hi6 e6 dX12_isKept_111 ?_
  obtain ⟨S7, e7, hi7, h⟩ := stI_ok h
  refine hr_ist C hR aM_55 hi7 e7 dX12_isKept_112 (fun H locs hR => ?_)
  exact ho_vret C hR h dX12_isKept_113
def f_X12_isKept_23 : Nat → Int32 → Int32 → Hp → Option Hp
  | 0, _, _, _ => none
  | k + 1, x1, x2, S => if (114 : Int32) ≤ x2 then f_X12_isKept_63 x1 S else ldI S 55 117 (x2 + (3 : Int32)) (fun v1 => stI S 55 117 x2 v1 (fun S2 => le1 (x2 + (1 : Int32)) (fun v3 => f_X12_isKept_23 k x1 v3 S2)))
set_option maxHeartbeats 4000000 in
set_option maxRecDepth 100000 in
theorem w_X12_isKept_23 {p : Program} {l : Launch} {e : Env} {s : State} {m : MethodId} {args : Array Value} {below : List Frame} {meth : Method} {c : Code} {E : Ev} {S0 : Hp} {r : Hp} (C : ho_I p s m args meth c RX12 cX12_isKept 3 none) :
    ∀ (k : Nat) (x1 : Int32) (x2 : Int32) (S : Hp), f_X12_isKept_23 k x1 x2 S = some r → ho_G p l e s m args below meth c yM E S0 0 3 (none, r) 23 [(0, .ref (E.2.1 0)), (1, .int x1), (2, .int x2)] [] S := by
  intro k
  induction k with
  | zero =>
    intro x1 x2 S h
    exact absurd (show (none : Option Hp) = some r from h) (by simp)
  | succ k ih =>
    intro x1 x2 S h H locs ls hR hl
    rw [f_X12_isKept_23] at h
    refine lv_iload_n C.1 C.2.1 dX12_isKept_23 rfl (lv_at hl 2 rfl) ?_
    refine lv_bipush (v := (114 : Int32)) C.1 C.2.1 dX12_isKept_24 (by decide) ?_
    refine lv_icmp_ge (tgt := 49) C.1 C.2.1 dX12_isKept_26 (by decide) (fun hc => ?_) (fun hc => ?_)
    · replace h := if_t h hc
      refine lv_goto (tgt := 63) C.1 C.2.1 dX12_isKept_49 (by decide) ?_
      exact w_X12_isKept_63 C x1 S h _ _ _ hR (lv_sub hl [0, 1] rfl)
    · replace h := if_f h hc
      refine lv_aload_n C.1 C.2.1 dX12_isKept_29 rfl (lv_at hl 0 rfl) ?_
      refine ho_getR (a' := 55) C cf12 fM_139 hR aM_0 rfl dX12_isKept_30 ?_
      refine lv_iload_n C.1 C.2.1 dX12_isKept_33 rfl (lv_at hl 2 rfl) ?_
      refine lv_aload_n C.1 C.2.1 dX12_isKept_34 rfl (lv_at hl 0 rfl) ?_
      refine ho_getR (a' := 55) C cf12 fM_139 hR aM_0 rfl dX12_isKept_35 ?_
      refine lv_iload_n C.1 C.2.1 dX12_isKept_38 rfl (lv_at hl 2 rfl) ?_
      refine lv_iconst (v := (3 : Int32)) C.1 C.2.1 dX12_isKept_39 (by decide) ?_
      refine lv_iadd C.1 C.2.1 dX12_isKept_40 ?_
      obtain ⟨v1, e1, hi1, h⟩ := ldI_ok h
      refine hr_ild C hR aM_55 hi1 e1 dX12_isKept_41 ?_
      obtain ⟨S2, e2, hi2, h⟩ := stI_ok h
      refine hr_ist C hR aM_55 hi2 e2 dX12_isKept_42 (fun H locs hR => ?_)
      obtain ⟨v3, e3, h⟩ := le1_ok h
      refine lv_iinc (v := v3) (lv' := [(2, .int v3), (0, .ref (E.2.1 0)), (1, .int x1)]) C.1 C.2.1 dX12_isKept_43 hl (k := 2) rfl (by rw [e3]; rfl) (by decide) rfl (fun ls hl => ?_)
      refine lv_goto (tgt := 23) C.1 C.2.1 dX12_isKept_46 (by decide) ?_
      exact ih x1 v3 S2 h _ _ _ hR (lv_sub hl [1, 2, 0] rfl)
def f_X12_isKept (x1 : Int32) (S : Hp) : Option Hp :=
  if (S.1 0 62) = 0 then ldI S 55 117 (26 : Int32) (fun v1 => if v1 = (30 : Int32) then f_X12_isKept_23 5000 x1 (27 : Int32) S else ldI S 55 117 (26 : Int32) (fun v2 => stI S 55 117 (26 : Int32) (v2 + (1 : Int32)) (fun S3 => f_X12_isKept_63 x1 S3))) else some S
set_option maxHeartbeats 4000000 in
set_option maxRecDepth 100000 in
theorem c_X12_isKept (l : Launch) (E : Ev) (x1 : Int32) (S : Hp) (r : Hp) (h : f_X12_isKept x1 S = some r) : ho_M l yM E yX12_isKept cX12_isKept 3 none 0 [.ref (E.2.1 0), .int x1] S (none, r) := by
  refine ho_in (by decide) (Nat.le_of_ble_eq_true rfl) ?_
  intro p e s m args below meth c C hR ls hl
  have C : ho_I p s m args meth c RX12 cX12_isKept 3 none := C
  have hl : lv_has ls 3 [(0, .ref (E.2.1 0)), (1, .int x1)] := hl
  unfold f_X12_isKept at h
  refine lv_aload_n C.1 C.2.1 dX12_isKept_0 rfl (lv_at hl 0 rfl) ?_
  refine ho_getI C cf12 fM_483 hR aM_0 dX12_isKept_1 ?_
  refine lv_if_eq (tgt := 8) C.1 C.2.1 dX12_isKept_4 (by decide) (fun hc => ?_) (fun hc => ?_)
  · replace h := if_t h hc
    refine lv_aload_n C.1 C.2.1 dX12_isKept_8 rfl (lv_at hl 0 rfl) ?_
    refine ho_getR (a' := 55) C cf12 fM_139 hR aM_0 rfl dX12_isKept_9 ?_
    refine lv_bipush (v := (26 : Int32)) C.1 C.2.1 dX12_isKept_12 (by decide) ?_
    obtain ⟨v1, e1, hi1, h⟩ := ldI_ok h
    refine hr_ild C hR aM_55 hi1 e1 dX12_isKept_14 ?_
    refine lv_bipush (v := (30 : Int32)) C.1 C.2.1 dX12_isKept_15 (by decide) ?_
    refine lv_icmp_ne (tgt := 52) C.1 C.2.1 dX12_isKept_17 (by decide) (fun hc => ?_) (fun hc => ?_)
    · replace h := if_f h hc
      refine lv_aload_n C.1 C.2.1 dX12_isKept_52 rfl (lv_at hl 0 rfl) ?_
      refine ho_getR (a' := 55) C cf12 fM_139 hR aM_0 rfl dX12_isKept_53 ?_
      refine lv_bipush (v := (26 : Int32)) C.1 C.2.1 dX12_isKept_56 (by decide) ?_
      refine lv_dup2_11 C.1 C.2.1 dX12_isKept_58 rfl rfl ?_
      obtain ⟨v2, e2, hi2, h⟩ := ldI_ok h
      refine hr_ild C hR aM_55 hi2 e2 dX12_isKept_59 ?_
      refine lv_iconst (v := (1 : Int32)) C.1 C.2.1 dX12_isKept_60 (by decide) ?_
      refine lv_iadd C.1 C.2.1 dX12_isKept_61 ?_
      obtain ⟨S3, e3, hi3, h⟩ := stI_ok h
      refine hr_ist C hR aM_55 hi3 e3 dX12_isKept_62 (fun H locs hR => ?_)
      exact w_X12_isKept_63 C x1 S3 h _ _ _ hR (lv_sub hl [0, 1] rfl)
    · replace h := if_t h hc
      refine lv_bipush (v := (27 : Int32)) C.1 C.2.1 dX12_isKept_20 (by decide) ?_
      refine lv_istore_n (lv' := [(2, .int (27 : Int32)), (0, .ref (E.2.1 0)), (1, .int x1)]) C.1 C.2.1 dX12_isKept_22 rfl hl (by decide) rfl (fun ls hl => ?_)
      exact w_X12_isKept_23 C 5000 x1 (27 : Int32) S h _ _ _ hR (lv_sub hl [1, 2, 0] rfl)
  · replace h := if_f h hc
    exact ho_vret C hR h dX12_isKept_7
theorem dX12_isSeenThrough_0 : decode cX12_isSeenThrough 0 = .ok (.aload_n 0, 1) := by decide +kernel
theorem dX12_isSeenThrough_1 : decode cX12_isSeenThrough 1 = .ok (.getfield 130, 3) := by decide +kernel
theorem dX12_isSeenThrough_4 : decode cX12_isSeenThrough 4 = .ok (.iconst 3, 1) := by decide +kernel
theorem dX12_isSeenThrough_5 : decode cX12_isSeenThrough 5 = .ok (.iaload, 1) := by decide +kernel
theorem dX12_isSeenThrough_6 : decode cX12_isSeenThrough 6 = .ok (.iconst (-1), 1) := by decide +kernel
theorem dX12_isSeenThrough_7 : decode cX12_isSeenThrough 7 = .ok (.if_icmp .ne 9, 3) := by decide +kernel
theorem dX12_isSeenThrough_10 : decode cX12_isSeenThrough 10 = .ok (.ldc2_w 486, 3) := by decide +kernel
theorem dX12_isSeenThrough_13 : decode cX12_isSeenThrough 13 = .ok (.goto 9, 3) := by decide +kernel
theorem dX12_isSeenThrough_16 : decode cX12_isSeenThrough 16 = .ok (.aload_n 0, 1) := by decide +kernel
theorem dX12_isSeenThrough_17 : decode cX12_isSeenThrough 17 = .ok (.iconst 1, 1) := by decide +kernel
theorem dX12_isSeenThrough_18 : decode cX12_isSeenThrough 18 = .ok (.iload_n 1, 1) := by decide +kernel
theorem dX12_isSeenThrough_19 : decode cX12_isSeenThrough 19 = .ok (.invokevirtual 436, 3) := by decide +kernel
theorem dX12_isSeenThrough_22 : decode cX12_isSeenThrough 22 = .ok (.lstore_n 2, 1) := by decide +kernel
theorem dX12_isSeenThrough_23 : decode cX12_isSeenThrough 23 = .ok (.lload_n 2, 1) := by decide +kernel
theorem dX12_isSeenThrough_24 : decode cX12_isSeenThrough 24 = .ok (.lconst 0, 1) := by decide +kernel
theorem dX12_isSeenThrough_25 : decode cX12_isSeenThrough 25 = .ok (.lcmp, 1) := by decide +kernel
theorem dX12_isSeenThrough_26 : decode cX12_isSeenThrough 26 = .ok (.ifCond .le 34, 3) := by decide +kernel
theorem dX12_isSeenThrough_29 : decode cX12_isSeenThrough 29 = .ok (.aload_n 0, 1) := by decide +kernel
theorem dX12_isSeenThrough_30 : decode cX12_isSeenThrough 30 = .ok (.getfield 139, 3) := by decide +kernel
theorem dX12_isSeenThrough_33 : decode cX12_isSeenThrough 33 = .ok (.iconst 2, 1) := by decide +kernel
theorem dX12_isSeenThrough_34 : decode cX12_isSeenThrough 34 = .ok (.lload_n 2, 1) := by decide +kernel
theorem dX12_isSeenThrough_35 : decode cX12_isSeenThrough 35 = .ok (.aload_n 0, 1) := by decide +kernel
theorem dX12_isSeenThrough_36 : decode cX12_isSeenThrough 36 = .ok (.getfield 139, 3) := by decide +kernel
theorem dX12_isSeenThrough_39 : decode cX12_isSeenThrough 39 = .ok (.iconst 2, 1) := by decide +kernel
theorem dX12_isSeenThrough_40 : decode cX12_isSeenThrough 40 = .ok (.iaload, 1) := by decide +kernel
theorem dX12_isSeenThrough_41 : decode cX12_isSeenThrough 41 = .ok (.i2l, 1) := by decide +kernel
theorem dX12_isSeenThrough_42 : decode cX12_isSeenThrough 42 = .ok (.lcmp, 1) := by decide +kernel
theorem dX12_isSeenThrough_43 : decode cX12_isSeenThrough 43 = .ok (.ifCond .le 7, 3) := by decide +kernel
theorem dX12_isSeenThrough_46 : decode cX12_isSeenThrough 46 = .ok (.iconst 0, 1) := by decide +kernel
theorem dX12_isSeenThrough_47 : decode cX12_isSeenThrough 47 = .ok (.goto 12, 3) := by decide +kernel
theorem dX12_isSeenThrough_50 : decode cX12_isSeenThrough 50 = .ok (.aload_n 0, 1) := by decide +kernel
theorem dX12_isSeenThrough_51 : decode cX12_isSeenThrough 51 = .ok (.getfield 139, 3) := by decide +kernel
theorem dX12_isSeenThrough_54 : decode cX12_isSeenThrough 54 = .ok (.iconst 2, 1) := by decide +kernel
theorem dX12_isSeenThrough_55 : decode cX12_isSeenThrough 55 = .ok (.iaload, 1) := by decide +kernel
theorem dX12_isSeenThrough_56 : decode cX12_isSeenThrough 56 = .ok (.lload_n 2, 1) := by decide +kernel
theorem dX12_isSeenThrough_57 : decode cX12_isSeenThrough 57 = .ok (.l2i, 1) := by decide +kernel
theorem dX12_isSeenThrough_58 : decode cX12_isSeenThrough 58 = .ok (.isub, 1) := by decide +kernel
theorem dX12_isSeenThrough_59 : decode cX12_isSeenThrough 59 = .ok (.iastore, 1) := by decide +kernel
theorem dX12_isSeenThrough_60 : decode cX12_isSeenThrough 60 = .ok (.aload_n 0, 1) := by decide +kernel
theorem dX12_isSeenThrough_61 : decode cX12_isSeenThrough 61 = .ok (.iload_n 1, 1) := by decide +kernel
theorem dX12_isSeenThrough_62 : decode cX12_isSeenThrough 62 = .ok (.invokevirtual 488, 3) := by decide +kernel
theorem dX12_isSeenThrough_65 : decode cX12_isSeenThrough 65 = .ok (.return_, 1) := by decide +kernel
def f_X12_isSeenThrough_60 (x1 : Int32) (S : Hp) : Option Hp :=
  ob (f_X12_isKept x1 S) (fun S1 => some S1)
set_option maxHeartbeats 4000000 in
set_option maxRecDepth 100000 in
theorem w_X12_isSeenThrough_60 {p : Program} {l : Launch} {e : Env} {s : State} {m : MethodId} {args : Array Value} {below : List Frame} {meth : Method} {c : Code} {E : Ev} {S0 : Hp} {r : Hp} (C : ho_I p s m args meth c RX12 cX12_isSeenThrough 4 none) :
    ∀ (x1 : Int32) (S : Hp), f_X12_isSeenThrough_60 x1 S = some r → ho_G p l e s m args below meth c yM E S0 3 4 (none, r) 60 [(0, .ref (E.2.1 0)), (1, .int x1)] [] S := by
  intro x1 S h H locs ls hR hl
  unfold f_X12_isSeenThrough_60 at h
  refine lv_aload_n C.1 C.2.1 dX12_isSeenThrough_60 rfl (lv_at hl 0 rfl) ?_
  refine lv_iload_n C.1 C.2.1 dX12_isSeenThrough_61 rfl (lv_at hl 1 rfl) ?_
  obtain ⟨S1, h1, h⟩ := ob_ok h
  refine hr_Vv (S' := S1) (As := [.int x1]) (rest := []) C cf12 (c_X12_isKept l E x1 _ _ h1) yv_X12_isKept lk_RX12_488 rfl aM_0 rfl rfl hl.1 (Nat.le_of_ble_eq_true rfl) (by decide) (by decide) hR (ho_A hR) dX12_isSeenThrough_62 (fun H locs hR => ?_)
  exact ho_vret C hR h dX12_isSeenThrough_65
def f_X12_isSeenThrough_59 (x1 : Int32) (z1 : Int32) (z2 : Int32) (S : Hp) : Option Hp :=
  stI S 55 117 z1 z2 (fun S1 => f_X12_isSeenThrough_60 x1 S1)
set_option maxHeartbeats 4000000 in
set_option maxRecDepth 100000 in
theorem w_X12_isSeenThrough_59 {p : Program} {l : Launch} {e : Env} {s : State} {m : MethodId} {args : Array Value} {below : List Frame} {meth : Method} {c : Code} {E : Ev} {S0 : Hp} {r : Hp} (C : ho_I p s m args meth c RX12 cX12_isSeenThrough 4 none) :
    ∀ (x1 : Int32) (z1 : Int32) (z2 : Int32) (S : Hp), f_X12_isSeenThrough_59 x1 z1 z2 S = some r → ho_G p l e s m args below meth c yM E S0 3 4 (none, r) 59 [(0, .ref (E.2.1 0)), (1, .int x1)] [.int z2, .int z1, .ref (E.2.1 55)] S := by
  intro x1 z1 z2 S h H locs ls hR hl
  unfold f_X12_isSeenThrough_59 at h
  obtain ⟨S1, e1, hi1, h⟩ := stI_ok h
  refine hr_ist C hR aM_55 hi1 e1 dX12_isSeenThrough_59 (fun H locs hR => ?_)
  exact w_X12_isSeenThrough_60 C x1 S1 h _ _ _ hR (lv_sub hl [0, 1] rfl)
def f_X12_isSeenThrough_22 (x1 : Int32) (z0 : Int64) (S : Hp) : Option Hp :=
  if (lg_cmp z0 (0 : Int64)) ≤ 0 then f_X12_isSeenThrough_60 x1 S else ldI S 55 117 (2 : Int32) (fun v1 => if (lg_cmp z0 (v1.toInt64)) ≤ 0 then ldI S 55 117 (2 : Int32) (fun v2 => f_X12_isSeenThrough_59 x1 (2 : Int32) (v2 - (z0.toInt32)) S) else f_X12_isSeenThrough_59 x1 (2 : Int32) (0 : Int32) S)
set_option maxHeartbeats 4000000 in
set_option maxRecDepth 100000 in
theorem w_X12_isSeenThrough_22 {p : Program} {l : Launch} {e : Env} {s : State} {m : MethodId} {args : Array Value} {below : List Frame} {meth : Method} {c : Code} {E : Ev} {S0 : Hp} {r : Hp} (C : ho_I p s m args meth c RX12 cX12_isSeenThrough 4 none) :
    ∀ (x1 : Int32) (z0 : Int64) (S : Hp), f_X12_isSeenThrough_22 x1 z0 S = some r → ho_G p l e s m args below meth c yM E S0 3 4 (none, r) 22 [(0, .ref (E.2.1 0)), (1, .int x1)] [.long z0] S := by
  intro x1 z0 S h H locs ls hR hl
  unfold f_X12_isSeenThrough_22 at h
  refine lv_lstore_n (lv' := [(2, .long z0), (0, .ref (E.2.1 0)), (1, .int x1)]) C.1 C.2.1 dX12_isSeenThrough_22 rfl hl (by decide) rfl (fun ls hl => ?_)
  refine lv_lload_n C.1 C.2.1 dX12_isSeenThrough_23 rfl (lv_at hl 0 rfl) ?_
  refine lv_lconst (v := (0 : Int64)) C.1 C.2.1 dX12_isSeenThrough_24 (by decide) ?_
  refine W.lcmp C.1 C.2.1 dX12_isSeenThrough_25 ?_
  refine lv_if_le (tgt := 60) C.1 C.2.1 dX12_isSeenThrough_26 (by decide) (fun hc => ?_) (fun hc => ?_)
  · replace h := if_t h hc
    exact w_X12_isSeenThrough_60 C x1 S h _ _ _ hR (lv_sub hl [1, 2] rfl)
  · replace h := if_f h hc
    refine lv_aload_n C.1 C.2.1 dX12_isSeenThrough_29 rfl (lv_at hl 1 rfl) ?_
    refine ho_getR (a' := 55) C cf12 fM_139 hR aM_0 rfl dX12_isSeenThrough_30 ?_
    refine lv_iconst (v := (2 : Int32)) C.1 C.2.1 dX12_isSeenThrough_33 (by decide) ?_
    refine lv_lload_n C.1 C.2.1 dX12_isSeenThrough_34 rfl (lv_at hl 0 rfl) ?_
    refine lv_aload_n C.1 C.2.1 dX12_isSeenThrough_35 rfl (lv_at hl 1 rfl) ?_
    refine ho_getR (a' := 55) C cf12 fM_139 hR aM_0 rfl dX12_isSeenThrough_36 ?_
    refine lv_iconst (v := (2 : Int32)) C.1 C.2.1 dX12_isSeenThrough_39 (by decide) ?_
    obtain ⟨v1, e1, hi1, h⟩ := ldI_ok h
    refine hr_ild C hR aM_55 hi1 e1 dX12_isSeenThrough_40 ?_
    refine lv_i2l (v := (v1.toInt64)) C.1 C.2.1 dX12_isSeenThrough_41 rfl ?_
    refine W.lcmp C.1 C.2.1 dX12_isSeenThrough_42 ?_
    refine lv_if_le (tgt := 50) C.1 C.2.1 dX12_isSeenThrough_43 (by decide) (fun hc => ?_) (fun hc => ?_)
    · replace h := if_t h hc
      refine lv_aload_n C.1 C.2.1 dX12_isSeenThrough_50 rfl (lv_at hl 1 rfl) ?_
      refine ho_getR (a' := 55) C cf12 fM_139 hR aM_0 rfl dX12_isSeenThrough_51 ?_
      refine lv_iconst (v := (2 : Int32)) C.1 C.2.1 dX12_isSeenThrough_54 (by decide) ?_
      obtain ⟨v2, e2, hi2, h⟩ := ldI_ok h
      refine hr_ild C hR aM_55 hi2 e2 dX12_isSeenThrough_55 ?_
      refine lv_lload_n C.1 C.2.1 dX12_isSeenThrough_56 rfl (lv_at hl 0 rfl) ?_
      refine lv_l2i (v := (z0.toInt32)) C.1 C.2.1 dX12_isSeenThrough_57 rfl ?_
      refine lv_isub C.1 C.2.1 dX12_isSeenThrough_58 ?_
      exact w_X12_isSeenThrough_59 C x1 (2 : Int32) (v2 - (z0.toInt32)) S h _ _ _ hR (lv_sub hl [1, 2] rfl)
    · replace h := if_f h hc
      refine lv_iconst (v := (0 : Int32)) C.1 C.2.1 dX12_isSeenThrough_46 (by decide) ?_
      refine lv_goto (tgt := 59) C.1 C.2.1 dX12_isSeenThrough_47 (by decide) ?_
      exact w_X12_isSeenThrough_59 C x1 (2 : Int32) (0 : Int32) S h _ _ _ hR (lv_sub hl [1, 2] rfl)
def f_X12_isSeenThrough (x1 : Int32) (S : Hp) : Option Hp :=
  ldI S 48 4 (3 : Int32) (fun v1 => if v1 = (-1 : Int32) then f_X12_isSeenThrough_22 x1 (10 : Int64) S else ob2 (f_X12_codesTell (1 : Int32) x1 S) (fun r2 S2 => f_X12_isSeenThrough_22 x1 r2 S2))
set_option maxHeartbeats 4000000 in
set_option maxRecDepth 100000 in
theorem c_X12_isSeenThrough (l : Launch) (E : Ev) (x1 : Int32) (S : Hp) (r : Hp) (h : f_X12_isSeenThrough x1 S = some r) : ho_M l yM E yX12_isSeenThrough cX12_isSeenThrough 4 none 3 [.ref (E.2.1 0), .int x1] S (none, r) := by
  refine ho_in (by decide) (Nat.le_of_ble_eq_true rfl) ?_
  intro p e s m args below meth c C hR ls hl
  have C : ho_I p s m args meth c RX12 cX12_isSeenThrough 4 none := C
  have hl : lv_has ls 4 [(0, .ref (E.2.1 0)), (1, .int x1)] := hl
  unfold f_X12_isSeenThrough at h
  refine lv_aload_n C.1 C.2.1 dX12_isSeenThrough_0 rfl (lv_at hl 0 rfl) ?_
  refine ho_getR (a' := 48) C cf12 fM_130 hR aM_0 rfl dX12_isSeenThrough_1 ?_
  refine lv_iconst (v := (3 : Int32)) C.1 C.2.1 dX12_isSeenThrough_4 (by decide) ?_
  obtain ⟨v1, e1, hi1, h⟩ := ldI_ok h
  refine hr_ild C hR aM_48 hi1 e1 dX12_isSeenThrough_5 ?_
  refine lv_iconst (v := (-1 : Int32)) C.1 C.2.1 dX12_isSeenThrough_6 (by decide) ?_
  refine lv_icmp_ne (tgt := 16) C.1 C.2.1 dX12_isSeenThrough_7 (by decide) (fun hc => ?_) (fun hc => ?_)
  · replace h := if_f h hc
    refine lv_aload_n C.1 C.2.1 dX12_isSeenThrough_16 rfl (lv_at hl 0 rfl) ?_
    refine lv_iconst (v := (1 : Int32)) C.1 C.2.1 dX12_isSeenThrough_17 (by decide) ?_
    refine lv_iload_n C.1 C.2.1 dX12_isSeenThrough_18 rfl (lv_at hl 1 rfl) ?_
    obtain ⟨r2, S2, h2, h⟩ := ob2_ok h
    refine hr_Vl (w := r2) (S' := S2) (As := [.int (1 : Int32), .int x1]) (rest := []) C cf12 (c_X12_codesTell l E (1 : Int32) x1 _ _ h2) yv_X12_codesTell lk_RX12_436 rfl aM_0 rfl rfl hl.1 (Nat.le_of_ble_eq_true rfl) (by decide) (by decide) hR (ho_A hR) dX12_isSeenThrough_19 (fun H locs hR => ?_)
    exact w_X12_isSeenThrough_22 C x1 r2 S2 h _ _ _ hR (lv_sub hl [0, 1] rfl)
  · replace h := if_t h hc
    refine lv_ldc2 (v := (10 : Int64)) C.1 C.2.1 C.2.2.2.2.1 (C.2.2.2.2.2.1 _ kc_RX12_486) dX12_isSeenThrough_10 ?_
    refine lv_goto (tgt := 22) C.1 C.2.1 dX12_isSeenThrough_13 (by decide) ?_
    exact w_X12_isSeenThrough_22 C x1 (10 : Int64) S h _ _ _ hR (lv_sub hl [0, 1] rfl)
theorem dX12_showGoes_0 : decode cX12_showGoes 0 = .ok (.aload_n 0, 1) := by decide +kernel
theorem dX12_showGoes_1 : decode cX12_showGoes 1 = .ok (.invokevirtual 473, 3) := by decide +kernel
theorem dX12_showGoes_4 : decode cX12_showGoes 4 = .ok (.aload_n 0, 1) := by decide +kernel
theorem dX12_showGoes_5 : decode cX12_showGoes 5 = .ok (.aload_n 0, 1) := by decide +kernel
theorem dX12_showGoes_6 : decode cX12_showGoes 6 = .ok (.iload_n 1, 1) := by decide +kernel
theorem dX12_showGoes_7 : decode cX12_showGoes 7 = .ok (.invokevirtual 464, 3) := by decide +kernel
theorem dX12_showGoes_10 : decode cX12_showGoes 10 = .ok (.putfield 491, 3) := by decide +kernel
theorem dX12_showGoes_13 : decode cX12_showGoes 13 = .ok (.iconst 0, 1) := by decide +kernel
theorem dX12_showGoes_14 : decode cX12_showGoes 14 = .ok (.istore_n 2, 1) := by decide +kernel
theorem dX12_showGoes_15 : decode cX12_showGoes 15 = .ok (.iload_n 2, 1) := by decide +kernel
theorem dX12_showGoes_16 : decode cX12_showGoes 16 = .ok (.aload_n 0, 1) := by decide +kernel
theorem dX12_showGoes_17 : decode cX12_showGoes 17 = .ok (.invokevirtual 407, 3) := by decide +kernel
theorem dX12_showGoes_20 : decode cX12_showGoes 20 = .ok (.if_icmp .ge 23, 3) := by decide +kernel
theorem dX12_showGoes_23 : decode cX12_showGoes 23 = .ok (.aload_n 0, 1) := by decide +kernel
theorem dX12_showGoes_24 : decode cX12_showGoes 24 = .ok (.getfield 139, 3) := by decide +kernel
theorem dX12_showGoes_27 : decode cX12_showGoes 27 = .ok (.iconst 3, 1) := by decide +kernel
theorem dX12_showGoes_28 : decode cX12_showGoes 28 = .ok (.iload_n 2, 1) := by decide +kernel
theorem dX12_showGoes_29 : decode cX12_showGoes 29 = .ok (.iadd, 1) := by decide +kernel
theorem dX12_showGoes_30 : decode cX12_showGoes 30 = .ok (.aload_n 0, 1) := by decide +kernel
theorem dX12_showGoes_31 : decode cX12_showGoes 31 = .ok (.getfield 148, 3) := by decide +kernel
theorem dX12_showGoes_34 : decode cX12_showGoes 34 = .ok (.iload_n 2, 1) := by decide +kernel
theorem dX12_showGoes_35 : decode cX12_showGoes 35 = .ok (.iaload, 1) := by decide +kernel
theorem dX12_showGoes_36 : decode cX12_showGoes 36 = .ok (.iastore, 1) := by decide +kernel
theorem dX12_showGoes_37 : decode cX12_showGoes 37 = .ok (.iinc 2 1, 3) := by decide +kernel
theorem dX12_showGoes_40 : decode cX12_showGoes 40 = .ok (.goto (-25), 3) := by decide +kernel
theorem dX12_showGoes_43 : decode cX12_showGoes 43 = .ok (.iconst 0, 1) := by decide +kernel
theorem dX12_showGoes_44 : decode cX12_showGoes 44 = .ok (.istore_n 2, 1) := by decide +kernel
theorem dX12_showGoes_45 : decode cX12_showGoes 45 = .ok (.iload_n 2, 1) := by decide +kernel
theorem dX12_showGoes_46 : decode cX12_showGoes 46 = .ok (.aload_n 0, 1) := by decide +kernel
theorem dX12_showGoes_47 : decode cX12_showGoes 47 = .ok (.invokevirtual 410, 3) := by decide +kernel
theorem dX12_showGoes_50 : decode cX12_showGoes 50 = .ok (.if_icmp .ge 84, 3) := by decide +kernel
theorem dX12_showGoes_53 : decode cX12_showGoes 53 = .ok (.iload_n 1, 1) := by decide +kernel
theorem dX12_showGoes_54 : decode cX12_showGoes 54 = .ok (.iload_n 2, 1) := by decide +kernel
theorem dX12_showGoes_55 : decode cX12_showGoes 55 = .ok (.ishr, 1) := by decide +kernel
theorem dX12_showGoes_56 : decode cX12_showGoes 56 = .ok (.iconst 1, 1) := by decide +kernel
theorem dX12_showGoes_57 : decode cX12_showGoes 57 = .ok (.iand, 1) := by decide +kernel
theorem dX12_showGoes_58 : decode cX12_showGoes 58 = .ok (.ifCond .ne 6, 3) := by decide +kernel
theorem dX12_showGoes_61 : decode cX12_showGoes 61 = .ok (.goto 67, 3) := by decide +kernel
theorem dX12_showGoes_64 : decode cX12_showGoes 64 = .ok (.aload_n 0, 1) := by decide +kernel
theorem dX12_showGoes_65 : decode cX12_showGoes 65 = .ok (.iload_n 2, 1) := by decide +kernel
theorem dX12_showGoes_66 : decode cX12_showGoes 66 = .ok (.invokevirtual 449, 3) := by decide +kernel
theorem dX12_showGoes_69 : decode cX12_showGoes 69 = .ok (.aload_n 0, 1) := by decide +kernel
theorem dX12_showGoes_70 : decode cX12_showGoes 70 = .ok (.getfield 151, 3) := by decide +kernel
theorem dX12_showGoes_73 : decode cX12_showGoes 73 = .ok (.iload_n 2, 1) := by decide +kernel
theorem dX12_showGoes_74 : decode cX12_showGoes 74 = .ok (.iaload, 1) := by decide +kernel
theorem dX12_showGoes_75 : decode cX12_showGoes 75 = .ok (.iadd, 1) := by decide +kernel
theorem dX12_showGoes_76 : decode cX12_showGoes 76 = .ok (.istore_n 3, 1) := by decide +kernel
theorem dX12_showGoes_77 : decode cX12_showGoes 77 = .ok (.aload_n 0, 1) := by decide +kernel
theorem dX12_showGoes_78 : decode cX12_showGoes 78 = .ok (.getfield 139, 3) := by decide +kernel
theorem dX12_showGoes_81 : decode cX12_showGoes 81 = .ok (.bipush 15, 2) := by decide +kernel
theorem dX12_showGoes_83 : decode cX12_showGoes 83 = .ok (.iload_n 2, 1) := by decide +kernel
theorem dX12_showGoes_84 : decode cX12_showGoes 84 = .ok (.iadd, 1) := by decide +kernel
theorem dX12_showGoes_85 : decode cX12_showGoes 85 = .ok (.iload_n 3, 1) := by decide +kernel
theorem dX12_showGoes_86 : decode cX12_showGoes 86 = .ok (.sipush 999, 3) := by decide +kernel
theorem dX12_showGoes_89 : decode cX12_showGoes 89 = .ok (.if_icmp .le 9, 3) := by decide +kernel
theorem dX12_showGoes_92 : decode cX12_showGoes 92 = .ok (.sipush 999, 3) := by decide +kernel
theorem dX12_showGoes_95 : decode cX12_showGoes 95 = .ok (.goto 4, 3) := by decide +kernel
theorem dX12_showGoes_98 : decode cX12_showGoes 98 = .ok (.iload_n 3, 1) := by decide +kernel
theorem dX12_showGoes_99 : decode cX12_showGoes 99 = .ok (.iastore, 1) := by decide +kernel
theorem dX12_showGoes_100 : decode cX12_showGoes 100 = .ok (.aload_n 0, 1) := by decide +kernel
theorem dX12_showGoes_101 : decode cX12_showGoes 101 = .ok (.getfield 139, 3) := by decide +kernel
theorem dX12_showGoes_104 : decode cX12_showGoes 104 = .ok (.bipush 9, 2) := by decide +kernel
theorem dX12_showGoes_106 : decode cX12_showGoes 106 = .ok (.iload_n 2, 1) := by decide +kernel
theorem dX12_showGoes_107 : decode cX12_showGoes 107 = .ok (.iadd, 1) := by decide +kernel
theorem dX12_showGoes_108 : decode cX12_showGoes 108 = .ok (.iaload, 1) := by decide +kernel
theorem dX12_showGoes_109 : decode cX12_showGoes 109 = .ok (.sipush 9999, 3) := by decide +kernel
theorem dX12_showGoes_112 : decode cX12_showGoes 112 = .ok (.if_icmp .ge 16, 3) := by decide +kernel
theorem dX12_showGoes_115 : decode cX12_showGoes 115 = .ok (.aload_n 0, 1) := by decide +kernel
theorem dX12_showGoes_116 : decode cX12_showGoes 116 = .ok (.getfield 139, 3) := by decide +kernel
theorem dX12_showGoes_119 : decode cX12_showGoes 119 = .ok (.bipush 9, 2) := by decide +kernel
theorem dX12_showGoes_121 : decode cX12_showGoes 121 = .ok (.iload_n 2, 1) := by decide +kernel
theorem dX12_showGoes_122 : decode cX12_showGoes 122 = .ok (.iadd, 1) := by decide +kernel
theorem dX12_showGoes_123 : decode cX12_showGoes 123 = .ok (.dup2, 1) := by decide +kernel
theorem dX12_showGoes_124 : decode cX12_showGoes 124 = .ok (.iaload, 1) := by decide +kernel
theorem dX12_showGoes_125 : decode cX12_showGoes 125 = .ok (.iconst 1, 1) := by decide +kernel
theorem dX12_showGoes_126 : decode cX12_showGoes 126 = .ok (.iadd, 1) := by decide +kernel
theorem dX12_showGoes_127 : decode cX12_showGoes 127 = .ok (.iastore, 1) := by decide +kernel
theorem dX12_showGoes_128 : decode cX12_showGoes 128 = .ok (.iinc 2 1, 3) := by decide +kernel
theorem dX12_showGoes_131 : decode cX12_showGoes 131 = .ok (.goto (-86), 3) := by decide +kernel
theorem dX12_showGoes_134 : decode cX12_showGoes 134 = .ok (.iconst 0, 1) := by decide +kernel
theorem dX12_showGoes_135 : decode cX12_showGoes 135 = .ok (.istore_n 2, 1) := by decide +kernel
theorem dX12_showGoes_136 : decode cX12_showGoes 136 = .ok (.iload_n 2, 1) := by decide +kernel
theorem dX12_showGoes_137 : decode cX12_showGoes 137 = .ok (.aload_n 0, 1) := by decide +kernel
theorem dX12_showGoes_138 : decode cX12_showGoes 138 = .ok (.invokevirtual 410, 3) := by decide +kernel
theorem dX12_showGoes_141 : decode cX12_showGoes 141 = .ok (.if_icmp .ge 33, 3) := by decide +kernel
theorem dX12_showGoes_144 : decode cX12_showGoes 144 = .ok (.iload_n 1, 1) := by decide +kernel
theorem dX12_showGoes_145 : decode cX12_showGoes 145 = .ok (.iload_n 2, 1) := by decide +kernel
theorem dX12_showGoes_146 : decode cX12_showGoes 146 = .ok (.ishr, 1) := by decide +kernel
theorem dX12_showGoes_147 : decode cX12_showGoes 147 = .ok (.iconst 1, 1) := by decide +kernel
theorem dX12_showGoes_148 : decode cX12_showGoes 148 = .ok (.iand, 1) := by decide +kernel
theorem dX12_showGoes_149 : decode cX12_showGoes 149 = .ok (.iconst 1, 1) := by decide +kernel
theorem dX12_showGoes_150 : decode cX12_showGoes 150 = .ok (.if_icmp .ne 18, 3) := by decide +kernel
theorem dX12_showGoes_153 : decode cX12_showGoes 153 = .ok (.aload_n 0, 1) := by decide +kernel
theorem dX12_showGoes_154 : decode cX12_showGoes 154 = .ok (.iload_n 2, 1) := by decide +kernel
theorem dX12_showGoes_155 : decode cX12_showGoes 155 = .ok (.invokevirtual 449, 3) := by decide +kernel
theorem dX12_showGoes_158 : decode cX12_showGoes 158 = .ok (.bipush 100, 2) := by decide +kernel
theorem dX12_showGoes_160 : decode cX12_showGoes 160 = .ok (.if_icmp .lt 8, 3) := by decide +kernel
theorem dX12_showGoes_163 : decode cX12_showGoes 163 = .ok (.aload_n 0, 1) := by decide +kernel
theorem dX12_showGoes_164 : decode cX12_showGoes 164 = .ok (.iload_n 2, 1) := by decide +kernel
theorem dX12_showGoes_165 : decode cX12_showGoes 165 = .ok (.invokevirtual 494, 3) := by decide +kernel
theorem dX12_showGoes_168 : decode cX12_showGoes 168 = .ok (.iinc 2 1, 3) := by decide +kernel
theorem dX12_showGoes_171 : decode cX12_showGoes 171 = .ok (.goto (-35), 3) := by decide +kernel
theorem dX12_showGoes_174 : decode cX12_showGoes 174 = .ok (.return_, 1) := by decide +kernel
def f_X12_showGoes_168 (K136 : Int32 → Int32 → Hp → Option Hp) (x1 : Int32) (x2 : Int32) (S : Hp) : Option Hp :=
  le1 (x2 + (1 : Int32)) (fun v1 => K136 x1 v1 S)
set_option maxHeartbeats 4000000 in
set_option maxRecDepth 100000 in
theorem w_X12_showGoes_168 {p : Program} {l : Launch} {e : Env} {s : State} {m : MethodId} {args : Array Value} {below : List Frame} {meth : Method} {c : Code} {E : Ev} {S0 : Hp} {r : Hp} (C : ho_I p s m args meth c RX12 cX12_showGoes 4 none) (K136 : Int32 → Int32 → Hp → Option Hp) (hK136 : ∀ (y1 : Int32) (y2 : Int32) (S : Hp), K136 y1 y2 S = some r → ho_G p l e s m args below meth c yM E S0 6 4 (none, r) 136 [(0, .ref (E.2.1 0)), (1, .int y1), (2, .int y2)] [] S) :
    ∀ (x1 : Int32) (x2 : Int32) (S : Hp), f_X12_showGoes_168 K136 x1 x2 S = some r → ho_G p l e s m args below meth c yM E S0 6 4 (none, r) 168 [(0, .ref (E.2.1 0)), (1, .int x1), (2, .int x2)] [] S := by
  intro x1 x2 S h H locs ls hR hl
  unfold f_X12_showGoes_168 at h
  obtain ⟨v1, e1, h⟩ := le1_ok h
  refine lv_iinc (v := v1) (lv' := [(2, .int v1), (0, .ref (E.2.1 0)), (1, .int x1)]) C.1 C.2.1 dX12_showGoes_168 hl (k := 2) rfl (by rw [e1]; rfl) (by decide) rfl (fun ls hl => ?_)
  refine lv_goto (tgt := 136) C.1 C.2.1 dX12_showGoes_171 (by decide) ?_
  exact hK136 x1 v1 S h _ _ _ hR (lv_sub hl [1, 2, 0] rfl)
def f_X12_showGoes_136 : Nat → Int32 → Int32 → Hp → Option Hp
  | 0, _, _, _ => none
  | k + 1, x1, x2, S => ob2 (f_X12_trickMany S) (fun r1 S1 => if r1 ≤ x2 then some S1 else if ((x1 >>> (x2 &&& 31)) &&& (1 : Int32)) = (1 : Int32) then ob2 (f_X12_knownOf x2 S1) (fun r2 S2 => if r2 < (100 : Int32) then f_X12_showGoes_168 (f_X12_showGoes_136 k) x1 x2 S2 else ob (f_X12_isSeenThrough x2 S2) (fun S3 => f_X12_showGoes_168 (f_X12_showGoes_136 k) x1 x2 S3)) else f_X12_showGoes_168 (f_X12_showGoes_136 k) x1 x2 S1)
set_option maxHeartbeats 4000000 in
set_option maxRecDepth 100000 in
theorem w_X12_showGoes_136 {p : Program} {l : Launch} {e : Env} {s : State} {m : MethodId} {args : Array Value} {below : List Frame} {meth : Method} {c : Code} {E : Ev} {S0 : Hp} {r : Hp} (C : ho_I p s m args meth c RX12 cX12_showGoes 4 none) :
    ∀ (k : Nat) (x1 : Int32) (x2 : Int32) (S : Hp), f_X12_showGoes_136 k x1 x2 S = some r → ho_G p l e s m args below meth c yM E S0 6 4 (none, r) 136 [(0, .ref (E.2.1 0)), (1, .int x1), (2, .int x2)] [] S := by
  intro k
  induction k with
  | zero =>
    intro x1 x2 S h
    exact absurd (show (none : Option Hp) = some r from h) (by simp)
  | succ k ih =>
    intro x1 x2 S h H locs ls hR hl
    rw [f_X12_showGoes_136] at h
    refine lv_iload_n C.1 C.2.1 dX12_showGoes_136 rfl (lv_at hl 2 rfl) ?_
    refine lv_aload_n C.1 C.2.1 dX12_showGoes_137 rfl (lv_at hl 0 rfl) ?_
    obtain ⟨r1, S1, h1, h⟩ := ob2_ok h
    refine hr_Vi (v := r1) (S' := S1) (As := []) (rest := [.int x2]) C cf12 (c_X12_trickMany l E _ _ h1) yv_X12_trickMany lk_RX12_410 rfl aM_0 rfl rfl hl.1 (Nat.le_of_ble_eq_true rfl) (by decide) (by decide) hR (ho_A hR) dX12_showGoes_138 (fun H locs hR => ?_)
    refine lv_icmp_ge (tgt := 174) C.1 C.2.1 dX12_showGoes_141 (by decide) (fun hc => ?_) (fun hc => ?_)
    · replace h := if_t h hc
      exact ho_vret C hR h dX12_showGoes_174
    · replace h := if_f h hc
      refine lv_iload_n C.1 C.2.1 dX12_showGoes_144 rfl (lv_at hl 1 rfl) ?_
      refine lv_iload_n C.1 C.2.1 dX12_showGoes_145 rfl (lv_at hl 2 rfl) ?_
      refine lv_ishr C.1 C.2.1 dX12_showGoes_146 ?_
      refine lv_iconst (v := (1 : Int32)) C.1 C.2.1 dX12_showGoes_147 (by decide) ?_
      refine lv_iand C.1 C.2.1 dX12_showGoes_148 ?_
      refine lv_iconst (v := (1 : Int32)) C.1 C.2.1 dX12_showGoes_149 (by decide) ?_
      refine lv_icmp_ne (tgt := 168) C.1 C.2.1 dX12_showGoes_150 (by decide) (fun hc => ?_) (fun hc => ?_)
      · replace h := if_f h hc
        exact w_X12_showGoes_168 C (f_X12_showGoes_136 k) ih x1 x2 S1 h _ _ _ hR (lv_sub hl [0, 1, 2] rfl)
      · replace h := if_t h hc
        refine lv_aload_n C.1 C.2.1 dX12_showGoes_153 rfl (lv_at hl 0 rfl) ?_
        refine lv_iload_n C.1 C.2.1 dX12_showGoes_154 rfl (lv_at hl 2 rfl) ?_
        obtain ⟨r2, S2, h2, h⟩ := ob2_ok h
        refine hr_Vi (v := r2) (S' := S2) (As := [.int x2]) (rest := []) C cf12 (c_X12_knownOf l E x2 _ _ h2) yv_X12_knownOf lk_RX12_449 rfl aM_0 rfl rfl hl.1 (Nat.le_of_ble_eq_true rfl) (by decide) (by decide) hR (ho_A hR) dX12_showGoes_155 (fun H locs hR => ?_)
        refine lv_bipush (v := (100 : Int32)) C.1 C.2.1 dX12_showGoes_158 (by decide) ?_
        refine lv_icmp_lt (tgt := 168) C.1 C.2.1 dX12_showGoes_160 (by decide) (fun hc => ?_) (fun hc => ?_)
        · replace h := if_t h hc
          exact w_X12_showGoes_168 C (f_X12_showGoes_136 k) ih x1 x2 S2 h _ _ _ hR (lv_sub hl [0, 1, 2] rfl)
        · replace h := if_f h hc
          refine lv_aload_n C.1 C.2.1 dX12_showGoes_163 rfl (lv_at hl 0 rfl) ?_
          refine lv_iload_n C.1 C.2.1 dX12_showGoes_164 rfl (lv_at hl 2 rfl) ?_
          obtain ⟨S3, h3, h⟩ := ob_ok h
          refine hr_Vv (S' := S3) (As := [.int x2]) (rest := []) C cf12 (c_X12_isSeenThrough l E x2 _ _ h3) yv_X12_isSeenThrough lk_RX12_494 rfl aM_0 rfl rfl hl.1 (Nat.le_of_ble_eq_true rfl) (by decide) (by decide) hR (ho_A hR) dX12_showGoes_165 (fun H locs hR => ?_)
          exact w_X12_showGoes_168 C (f_X12_showGoes_136 k) ih x1 x2 S3 h _ _ _ hR (lv_sub hl [0, 1, 2] rfl)
def f_X12_showGoes_128 (K45 : Int32 → Int32 → Hp → Option Hp) (x1 : Int32) (x2 : Int32) (S : Hp) : Option Hp :=
  le1 (x2 + (1 : Int32)) (fun v1 => K45 x1 v1 S)
set_option maxHeartbeats 4000000 in
set_option maxRecDepth 100000 in
theorem w_X12_showGoes_128 {p : Program} {l : Launch} {e : Env} {s : State} {m : MethodId} {args : Array Value} {below : List Frame} {meth : Method} {c : Code} {E : Ev} {S0 : Hp} {r : Hp} (C : ho_I p s m args meth c RX12 cX12_showGoes 4 none) (K45 : Int32 → Int32 → Hp → Option Hp) (hK45 : ∀ (y1 : Int32) (y2 : Int32) (S : Hp), K45 y1 y2 S = some r → ho_G p l e s m args below meth c yM E S0 6 4 (none, r) 45 [(0, .ref (E.2.1 0)), (1, .int y1), (2, .int y2)] [] S) :
    ∀ (x1 : Int32) (x2 : Int32) (S : Hp), f_X12_showGoes_128 K45 x1 x2 S = some r → ho_G p l e s m args below meth c yM E S0 6 4 (none, r) 128 [(0, .ref (E.2.1 0)), (1, .int x1), (2, .int x2)] [] S := by
  intro x1 x2 S h H locs ls hR hl
  unfold f_X12_showGoes_128 at h
  obtain ⟨v1, e1, h⟩ := le1_ok h
  refine lv_iinc (v := v1) (lv' := [(2, .int v1), (0, .ref (E.2.1 0)), (1, .int x1)]) C.1 C.2.1 dX12_showGoes_128 hl (k := 2) rfl (by rw [e1]; rfl) (by decide) rfl (fun ls hl => ?_)
  refine lv_goto (tgt := 45) C.1 C.2.1 dX12_showGoes_131 (by decide) ?_
  exact hK45 x1 v1 S h _ _ _ hR (lv_sub hl [1, 2, 0] rfl)
def f_X12_showGoes_99 (K45 : Int32 → Int32 → Hp → Option Hp) (x1 : Int32) (x2 : Int32) (z1 : Int32) (z2 : Int32) (S : Hp) : Option Hp :=
  stI S 55 117 z1 z2 (fun S1 => ldI S1 55 117 ((9 : Int32) + x2) (fun v2 => if (9999 : Int32) ≤ v2 then f_X12_showGoes_128 K45 x1 x2 S1 else ldI S1 55 117 ((9 : Int32) + x2) (fun v3 => stI S1 55 117 ((9 : Int32) + x2) (v3 + (1 : Int32)) (fun S4 => f_X12_showGoes_128 K45 x1 x2 S4))))
set_option maxHeartbeats 4000000 in
set_option maxRecDepth 100000 in
theorem w_X12_showGoes_99 {p : Program} {l : Launch} {e : Env} {s : State} {m : MethodId} {args : Array Value} {below : List Frame} {meth : Method} {c : Code} {E : Ev} {S0 : Hp} {r : Hp} (C : ho_I p s m args meth c RX12 cX12_showGoes 4 none) (K45 : Int32 → Int32 → Hp → Option Hp) (hK45 : ∀ (y1 : Int32) (y2 : Int32) (S : Hp), K45 y1 y2 S = some r → ho_G p l e s m args below meth c yM E S0 6 4 (none, r) 45 [(0, .ref (E.2.1 0)), (1, .int y1), (2, .int y2)] [] S) :
    ∀ (x1 : Int32) (x2 : Int32) (z1 : Int32) (z2 : Int32) (S : Hp), f_X12_showGoes_99 K45 x1 x2 z1 z2 S = some r → ho_G p l e s m args below meth c yM E S0 6 4 (none, r) 99 [(0, .ref (E.2.1 0)), (1, .int x1), (2, .int x2)] [.int z2, .int z1, .ref (E.2.1 55)] S := by
  intro x1 x2 z1 z2 S h H locs ls hR hl
  unfold f_X12_showGoes_99 at h
  obtain ⟨S1, e1, hi1, h⟩ := stI_ok h
  refine hr_ist C hR aM_55 hi1 e1 dX12_showGoes_99 (fun H locs hR => ?_)
  refine lv_aload_n C.1 C.2.1 dX12_showGoes_100 rfl (lv_at hl 0 rfl) ?_
  refine ho_getR (a' := 55) C cf12 fM_139 hR aM_0 rfl dX12_showGoes_101 ?_
  refine lv_bipush (v := (9 : Int32)) C.1 C.2.1 dX12_showGoes_104 (by decide) ?_
  refine lv_iload_n C.1 C.2.1 dX12_showGoes_106 rfl (lv_at hl 2 rfl) ?_
  refine lv_iadd C.1 C.2.1 dX12_showGoes_107 ?_
  obtain ⟨v2, e2, hi2, h⟩ := ldI_ok h
  refine hr_ild C hR aM_55 hi2 e2 dX12_showGoes_108 ?_
  refine lv_sipush (v := (9999 : Int32)) C.1 C.2.1 dX12_showGoes_109 (by decide) ?_
  refine lv_icmp_ge (tgt := 128) C.1 C.2.1 dX12_showGoes_112 (by decide) (fun hc => ?_) (fun hc => ?_)
  · replace h := if_t h hc
    exact w_X12_showGoes_128 C K45 hK45 x1 x2 S1 h _ _ _ hR (lv_sub hl [0, 1, 2] rfl)
  · replace h := if_f h hc
    refine lv_aload_n C.1 C.2.1 dX12_showGoes_115 rfl (lv_at hl 0 rfl) ?_
    refine ho_getR (a' := 55) C cf12 fM_139 hR aM_0 rfl dX12_showGoes_116 ?_
    refine lv_bipush (v := (9 : Int32)) C.1 C.2.1 dX12_showGoes_119 (by decide) ?_
    refine lv_iload_n C.1 C.2.1 dX12_showGoes_121 rfl (lv_at hl 2 rfl) ?_
    refine lv_iadd C.1 C.2.1 dX12_showGoes_122 ?_
    refine lv_dup2_11 C.1 C.2.1 dX12_showGoes_123 rfl rfl ?_
    obtain ⟨v3, e3, hi3, h⟩ := ldI_ok h
    refine hr_ild C hR aM_55 hi3 e3 dX12_showGoes_124 ?_
    refine lv_iconst (v := (1 : Int32)) C.1 C.2.1 dX12_showGoes_125 (by decide) ?_
    refine lv_iadd C.1 C.2.1 dX12_showGoes_126 ?_
    obtain ⟨S4, e4, hi4, h⟩ := stI_ok h
    refine hr_ist C hR aM_55 hi4 e4 dX12_showGoes_127 (fun H locs hR => ?_)
    exact w_X12_showGoes_128 C K45 hK45 x1 x2 S4 h _ _ _ hR (lv_sub hl [0, 1, 2] rfl)
def f_X12_showGoes_45 : Nat → Int32 → Int32 → Hp → Option Hp
  | 0, _, _, _ => none
  | k + 1, x1, x2, S => ob2 (f_X12_trickMany S) (fun r1 S1 => if r1 ≤ x2 then f_X12_showGoes_136 5000 x1 (0 : Int32) S1 else if ((x1 >>> (x2 &&& 31)) &&& (1 : Int32)) = 0 then f_X12_showGoes_128 (f_X12_showGoes_45 k) x1 x2 S1 else ob2 (f_X12_knownOf x2 S1) (fun r2 S2 => ldI S2 61 6 x2 (fun v3 => le1 (r2 + v3) (fun v4 => if v4 ≤ (999 : Int32) then f_X12_showGoes_99 (f_X12_showGoes_45 k) x1 x2 ((15 : Int32) + x2) v4 S2 else f_X12_showGoes_99 (f_X12_showGoes_45 k) x1 x2 ((15 : Int32) + x2) (999 : Int32) S2))))
set_option maxHeartbeats 4000000 in
set_option maxRecDepth 100000 in
theorem w_X12_showGoes_45 {p : Program} {l : Launch} {e : Env} {s : State} {m : MethodId} {args : Array Value} {below : List Frame} {meth : Method} {c : Code} {E : Ev} {S0 : Hp} {r : Hp} (C : ho_I p s m args meth c RX12 cX12_showGoes 4 none) :
    ∀ (k : Nat) (x1 : Int32) (x2 : Int32) (S : Hp), f_X12_showGoes_45 k x1 x2 S = some r → ho_G p l e s m args below meth c yM E S0 6 4 (none, r) 45 [(0, .ref (E.2.1 0)), (1, .int x1), (2, .int x2)] [] S := by
  intro k
  induction k with
  | zero =>
    intro x1 x2 S h
    exact absurd (show (none : Option Hp) = some r from h) (by simp)
  | succ k ih =>
    intro x1 x2 S h H locs ls hR hl
    rw [f_X12_showGoes_45] at h
    refine lv_iload_n C.1 C.2.1 dX12_showGoes_45 rfl (lv_at hl 2 rfl) ?_
    refine lv_aload_n C.1 C.2.1 dX12_showGoes_46 rfl (lv_at hl 0 rfl) ?_
    obtain ⟨r1, S1, h1, h⟩ := ob2_ok h
    refine hr_Vi (v := r1) (S' := S1) (As := []) (rest := [.int x2]) C cf12 (c_X12_trickMany l E _ _ h1) yv_X12_trickMany lk_RX12_410 rfl aM_0 rfl rfl hl.1 (Nat.le_of_ble_eq_true rfl) (by decide) (by decide) hR (ho_A hR) dX12_showGoes_47 (fun H locs hR => ?_)
    refine lv_icmp_ge (tgt := 134) C.1 C.2.1 dX12_showGoes_50 (by decide) (fun hc => ?_) (fun hc => ?_)
    · replace h := if_t h hc
      refine lv_iconst (v := (0 : Int32)) C.1 C.2.1 dX12_showGoes_134 (by decide) ?_
      refine lv_istore_n (lv' := [(2, .int (0 : Int32)), (0, .ref (E.2.1 0)), (1, .int x1)]) C.1 C.2.1 dX12_showGoes_135 rfl hl (by decide) rfl (fun ls hl => ?_)
      exact w_X12_showGoes_136 C 5000 x1 (0 : Int32) S1 h _ _ _ hR (lv_sub hl [1, 2, 0] rfl)
    · replace h := if_f h hc
      refine lv_iload_n C.1 C.2.1 dX12_showGoes_53 rfl (lv_at hl 1 rfl) ?_
      refine lv_iload_n C.1 C.2.1 dX12_showGoes_54 rfl (lv_at hl 2 rfl) ?_
      refine lv_ishr C.1 C.2.1 dX12_showGoes_55 ?_
      refine lv_iconst (v := (1 : Int32)) C.1 C.2.1 dX12_showGoes_56 (by decide) ?_
      refine lv_iand C.1 C.2.1 dX12_showGoes_57 ?_
      refine lv_if_ne (tgt := 64) C.1 C.2.1 dX12_showGoes_58 (by decide) (fun hc => ?_) (fun hc => ?_)
      · replace h := if_f h hc
        refine lv_aload_n C.1 C.2.1 dX12_showGoes_64 rfl (lv_at hl 0 rfl) ?_
        refine lv_iload_n C.1 C.2.1 dX12_showGoes_65 rfl (lv_at hl 2 rfl) ?_
        obtain ⟨r2, S2, h2, h⟩ := ob2_ok h
        refine hr_Vi (v := r2) (S' := S2) (As := [.int x2]) (rest := []) C cf12 (c_X12_knownOf l E x2 _ _ h2) yv_X12_knownOf lk_RX12_449 rfl aM_0 rfl rfl hl.1 (Nat.le_of_ble_eq_true rfl) (by decide) (by decide) hR (ho_A hR) dX12_showGoes_66 (fun H locs hR => ?_)
        refine lv_aload_n C.1 C.2.1 dX12_showGoes_69 rfl (lv_at hl 0 rfl) ?_
        refine ho_getR (a' := 61) C cf12 fM_151 hR aM_0 rfl dX12_showGoes_70 ?_
        refine lv_iload_n C.1 C.2.1 dX12_showGoes_73 rfl (lv_at hl 2 rfl) ?_
        obtain ⟨v3, e3, hi3, h⟩ := ldI_ok h
        refine hr_ild C hR aM_61 hi3 e3 dX12_showGoes_74 ?_
        refine lv_iadd C.1 C.2.1 dX12_showGoes_75 ?_
        refine lv_topi (fun v4 e4 => ?_)
        replace h := le1_at e4 h
        refine lv_istore_n (lv' := [(3, .int v4), (0, .ref (E.2.1 0)), (1, .int x1), (2, .int x2)]) C.1 C.2.1 dX12_showGoes_76 rfl hl (by decide) rfl (fun ls hl => ?_)
        refine lv_aload_n C.1 C.2.1 dX12_showGoes_77 rfl (lv_at hl 1 rfl) ?_
        refine ho_getR (a' := 55) C cf12 fM_139 hR aM_0 rfl dX12_showGoes_78 ?_
        refine lv_bipush (v := (15 : Int32)) C.1 C.2.1 dX12_showGoes_81 (by decide) ?_
        refine lv_iload_n C.1 C.2.1 dX12_showGoes_83 rfl (lv_at hl 3 rfl) ?_
        refine lv_iadd C.1 C.2.1 dX12_showGoes_84 ?_
        refine lv_iload_n C.1 C.2.1 dX12_showGoes_85 rfl (lv_at hl 0 rfl) ?_
        refine lv_sipush (v := (999 : Int32)) C.1 C.2.1 dX12_showGoes_86 (by decide) ?_
        refine lv_icmp_le (tgt := 98) C.1 C.2.1 dX12_showGoes_89 (by decide) (fun hc => ?_) (fun hc => ?_)
        · replace h := if_t h hc
          refine lv_iload_n C.1 C.2.1 dX12_showGoes_98 rfl (lv_at hl 0 rfl) ?_
          exact w_X12_showGoes_99 C (f_X12_showGoes_45 k) ih x1 x2 ((15 : Int32) + x2) v4 S2 h _ _ _ hR (lv_sub hl [1, 2, 3] rfl)
        · replace h := if_f h hc
          refine lv_sipush (v := (999 : Int32)) C.1 C.2.1 dX12_showGoes_92 (by decide) ?_
          refine lv_goto (tgt := 99) C.1 C.2.1 dX12_showGoes_95 (by decide) ?_
          exact w_X12_showGoes_99 C (f_X12_showGoes_45 k) ih x1 x2 ((15 : Int32) + x2) (999 : Int32) S2 h _ _ _ hR (lv_sub hl [1, 2, 3] rfl)
      · replace h := if_t h hc
        refine lv_goto (tgt := 128) C.1 C.2.1 dX12_showGoes_61 (by decide) ?_
        exact w_X12_showGoes_128 C (f_X12_showGoes_45 k) ih x1 x2 S1 h _ _ _ hR (lv_sub hl [0, 1, 2] rfl)
def f_X12_showGoes_15 : Nat → Int32 → Int32 → Hp → Option Hp
  | 0, _, _, _ => none
  | k + 1, x1, x2, S => ob2 (f_X12_provinceMany S) (fun r1 S1 => if r1 ≤ x2 then f_X12_showGoes_45 5000 x1 (0 : Int32) S1 else ldI S1 60 6 x2 (fun v2 => stI S1 55 117 ((3 : Int32) + x2) v2 (fun S3 => le1 (x2 + (1 : Int32)) (fun v4 => f_X12_showGoes_15 k x1 v4 S3))))
set_option maxHeartbeats 4000000 in
set_option maxRecDepth 100000 in
theorem w_X12_showGoes_15 {p : Program} {l : Launch} {e : Env} {s : State} {m : MethodId} {args : Array Value} {below : List Frame} {meth : Method} {c : Code} {E : Ev} {S0 : Hp} {r : Hp} (C : ho_I p s m args meth c RX12 cX12_showGoes 4 none) :
    ∀ (k : Nat) (x1 : Int32) (x2 : Int32) (S : Hp), f_X12_showGoes_15 k x1 x2 S = some r → ho_G p l e s m args below meth c yM E S0 6 4 (none, r) 15 [(0, .ref (E.2.1 0)), (1, .int x1), (2, .int x2)] [] S := by
  intro k
  induction k with
  | zero =>
    intro x1 x2 S h
    exact absurd (show (none : Option Hp) = some r from h) (by simp)
  | succ k ih =>
    intro x1 x2 S h H locs ls hR hl
    rw [f_X12_showGoes_15] at h
    refine lv_iload_n C.1 C.2.1 dX12_showGoes_15 rfl (lv_at hl 2 rfl) ?_
    refine lv_aload_n C.1 C.2.1 dX12_showGoes_16 rfl (lv_at hl 0 rfl) ?_
    obtain ⟨r1, S1, h1, h⟩ := ob2_ok h
    refine hr_Vi (v := r1) (S' := S1) (As := []) (rest := [.int x2]) C cf12 (c_X12_provinceMany l E _ _ h1) yv_X12_provinceMany lk_RX12_407 rfl aM_0 rfl rfl hl.1 (Nat.le_of_ble_eq_true rfl) (by decide) (by decide) hR (ho_A hR) dX12_showGoes_17 (fun H locs hR => ?_)
    refine lv_icmp_ge (tgt := 43) C.1 C.2.1 dX12_showGoes_20 (by decide) (fun hc => ?_) (fun hc => ?_)
    · replace h := if_t h hc
      refine lv_iconst (v := (0 : Int32)) C.1 C.2.1 dX12_showGoes_43 (by decide) ?_
      refine lv_istore_n (lv' := [(2, .int (0 : Int32)), (0, .ref (E.2.1 0)), (1, .int x1)]) C.1 C.2.1 dX12_showGoes_44 rfl hl (by decide) rfl (fun ls hl => ?_)
      exact w_X12_showGoes_45 C 5000 x1 (0 : Int32) S1 h _ _ _ hR (lv_sub hl [1, 2, 0] rfl)
    · replace h := if_f h hc
      refine lv_aload_n C.1 C.2.1 dX12_showGoes_23 rfl (lv_at hl 0 rfl) ?_
      refine ho_getR (a' := 55) C cf12 fM_139 hR aM_0 rfl dX12_showGoes_24 ?_
      refine lv_iconst (v := (3 : Int32)) C.1 C.2.1 dX12_showGoes_27 (by decide) ?_
      refine lv_iload_n C.1 C.2.1 dX12_showGoes_28 rfl (lv_at hl 2 rfl) ?_
      refine lv_iadd C.1 C.2.1 dX12_showGoes_29 ?_
      refine lv_aload_n C.1 C.2.1 dX12_showGoes_30 rfl (lv_at hl 0 rfl) ?_
      refine ho_getR (a' := 60) C cf12 fM_148 hR aM_0 rfl dX12_showGoes_31 ?_
      refine lv_iload_n C.1 C.2.1 dX12_showGoes_34 rfl (lv_at hl 2 rfl) ?_
      obtain ⟨v2, e2, hi2, h⟩ := ldI_ok h
      refine hr_ild C hR aM_60 hi2 e2 dX12_showGoes_35 ?_
      obtain ⟨S3, e3, hi3, h⟩ := stI_ok h
      refine hr_ist C hR aM_55 hi3 e3 dX12_showGoes_36 (fun H locs hR => ?_)
      obtain ⟨v4, e4, h⟩ := le1_ok h
      refine lv_iinc (v := v4) (lv' := [(2, .int v4), (0, .ref (E.2.1 0)), (1, .int x1)]) C.1 C.2.1 dX12_showGoes_37 hl (k := 2) rfl (by rw [e4]; rfl) (by decide) rfl (fun ls hl => ?_)
      refine lv_goto (tgt := 15) C.1 C.2.1 dX12_showGoes_40 (by decide) ?_
      exact ih x1 v4 S3 h _ _ _ hR (lv_sub hl [1, 2, 0] rfl)
def f_X12_showGoes (x1 : Int32) (S : Hp) : Option Hp :=
  ob (f_X12_laysSights S) (fun S1 => ob2 (f_X12_appearsBy x1 S1) (fun r2 S2 => le1 (ho_sI S2 0 64 r2) (fun S3 => f_X12_showGoes_15 5000 x1 (0 : Int32) S3)))
set_option maxHeartbeats 4000000 in
set_option maxRecDepth 100000 in
theorem c_X12_showGoes (l : Launch) (E : Ev) (x1 : Int32) (S : Hp) (r : Hp) (h : f_X12_showGoes x1 S = some r) : ho_M l yM E yX12_showGoes cX12_showGoes 4 none 6 [.ref (E.2.1 0), .int x1] S (none, r) := by
  refine ho_in (by decide) (Nat.le_of_ble_eq_true rfl) ?_
  intro p e s m args below meth c C hR ls hl
  have C : ho_I p s m args meth c RX12 cX12_showGoes 4 none := C
  have hl : lv_has ls 4 [(0, .ref (E.2.1 0)), (1, .int x1)] := hl
  unfold f_X12_showGoes at h
  refine lv_aload_n C.1 C.2.1 dX12_showGoes_0 rfl (lv_at hl 0 rfl) ?_
  obtain ⟨S1, h1, h⟩ := ob_ok h
  refine hr_Vv (S' := S1) (As := []) (rest := []) C cf12 (c_X12_laysSights l E _ _ h1) yv_X12_laysSights lk_RX12_473 rfl aM_0 rfl rfl hl.1 (Nat.le_of_ble_eq_true rfl) (by decide) (by decide) hR (ho_A hR) dX12_showGoes_1 (fun H locs hR => ?_)
  refine lv_aload_n C.1 C.2.1 dX12_showGoes_4 rfl (lv_at hl 0 rfl) ?_
  refine lv_aload_n C.1 C.2.1 dX12_showGoes_5 rfl (lv_at hl 0 rfl) ?_
  refine lv_iload_n C.1 C.2.1 dX12_showGoes_6 rfl (lv_at hl 1 rfl) ?_
  obtain ⟨r2, S2, h2, h⟩ := ob2_ok h
  refine hr_Vi (v := r2) (S' := S2) (As := [.int x1]) (rest := [.ref (E.2.1 0)]) C cf12 (c_X12_appearsBy l E x1 _ _ h2) yv_X12_appearsBy lk_RX12_464 rfl aM_0 rfl rfl hl.1 (Nat.le_of_ble_eq_true rfl) (by decide) (by decide) hR (ho_A hR) dX12_showGoes_7 (fun H locs hR => ?_)
  obtain ⟨S3, e3, h⟩ := le1_ok h
  refine hr_putI C cf12 fM_491 hR aM_0 e3 dX12_showGoes_10 (fun H locs hR => ?_)
  refine lv_iconst (v := (0 : Int32)) C.1 C.2.1 dX12_showGoes_13 (by decide) ?_
  refine lv_istore_n (lv' := [(2, .int (0 : Int32)), (0, .ref (E.2.1 0)), (1, .int x1)]) C.1 C.2.1 dX12_showGoes_14 rfl hl (by decide) rfl (fun ls hl => ?_)
  exact w_X12_showGoes_15 C 5000 x1 (0 : Int32) S3 h _ _ _ hR (lv_sub hl [1, 2, 0] rfl)
theorem dX12_debtGoes_0 : decode cX12_debtGoes 0 = .ok (.aload_n 0, 1) := by decide +kernel
theorem dX12_debtGoes_1 : decode cX12_debtGoes 1 = .ok (.getfield 491, 3) := by decide +kernel
theorem dX12_debtGoes_4 : decode cX12_debtGoes 4 = .ok (.aload_n 0, 1) := by decide +kernel
theorem dX12_debtGoes_5 : decode cX12_debtGoes 5 = .ok (.getfield 115, 3) := by decide +kernel
theorem dX12_debtGoes_8 : decode cX12_debtGoes 8 = .ok (.iconst 3, 1) := by decide +kernel
theorem dX12_debtGoes_9 : decode cX12_debtGoes 9 = .ok (.iaload, 1) := by decide +kernel
theorem dX12_debtGoes_10 : decode cX12_debtGoes 10 = .ok (.isub, 1) := by decide +kernel
theorem dX12_debtGoes_11 : decode cX12_debtGoes 11 = .ok (.istore_n 1, 1) := by decide +kernel
theorem dX12_debtGoes_12 : decode cX12_debtGoes 12 = .ok (.iload_n 1, 1) := by decide +kernel
theorem dX12_debtGoes_13 : decode cX12_debtGoes 13 = .ok (.ifCond .lt 13, 3) := by decide +kernel
theorem dX12_debtGoes_16 : decode cX12_debtGoes 16 = .ok (.aload_n 0, 1) := by decide +kernel
theorem dX12_debtGoes_17 : decode cX12_debtGoes 17 = .ok (.dup, 1) := by decide +kernel
theorem dX12_debtGoes_18 : decode cX12_debtGoes 18 = .ok (.getfield 497, 3) := by decide +kernel
theorem dX12_debtGoes_21 : decode cX12_debtGoes 21 = .ok (.iconst 1, 1) := by decide +kernel
theorem dX12_debtGoes_22 : decode cX12_debtGoes 22 = .ok (.iadd, 1) := by decide +kernel
theorem dX12_debtGoes_23 : decode cX12_debtGoes 23 = .ok (.putfield 497, 3) := by decide +kernel
theorem dX12_debtGoes_26 : decode cX12_debtGoes 26 = .ok (.aload_n 0, 1) := by decide +kernel
theorem dX12_debtGoes_27 : decode cX12_debtGoes 27 = .ok (.getfield 139, 3) := by decide +kernel
theorem dX12_debtGoes_30 : decode cX12_debtGoes 30 = .ok (.iconst 1, 1) := by decide +kernel
theorem dX12_debtGoes_31 : decode cX12_debtGoes 31 = .ok (.iaload, 1) := by decide +kernel
theorem dX12_debtGoes_32 : decode cX12_debtGoes 32 = .ok (.iload_n 1, 1) := by decide +kernel
theorem dX12_debtGoes_33 : decode cX12_debtGoes 33 = .ok (.isub, 1) := by decide +kernel
theorem dX12_debtGoes_34 : decode cX12_debtGoes 34 = .ok (.i2l, 1) := by decide +kernel
theorem dX12_debtGoes_35 : decode cX12_debtGoes 35 = .ok (.lstore_n 2, 1) := by decide +kernel
theorem dX12_debtGoes_36 : decode cX12_debtGoes 36 = .ok (.lload_n 2, 1) := by decide +kernel
theorem dX12_debtGoes_37 : decode cX12_debtGoes 37 = .ok (.lconst 0, 1) := by decide +kernel
theorem dX12_debtGoes_38 : decode cX12_debtGoes 38 = .ok (.lcmp, 1) := by decide +kernel
theorem dX12_debtGoes_39 : decode cX12_debtGoes 39 = .ok (.ifCond .ge 5, 3) := by decide +kernel
theorem dX12_debtGoes_42 : decode cX12_debtGoes 42 = .ok (.lconst 0, 1) := by decide +kernel
theorem dX12_debtGoes_43 : decode cX12_debtGoes 43 = .ok (.lstore_n 2, 1) := by decide +kernel
theorem dX12_debtGoes_44 : decode cX12_debtGoes 44 = .ok (.lload_n 2, 1) := by decide +kernel
theorem dX12_debtGoes_45 : decode cX12_debtGoes 45 = .ok (.lload_n 2, 1) := by decide +kernel
theorem dX12_debtGoes_46 : decode cX12_debtGoes 46 = .ok (.aload_n 0, 1) := by decide +kernel
theorem dX12_debtGoes_47 : decode cX12_debtGoes 47 = .ok (.getfield 115, 3) := by decide +kernel
theorem dX12_debtGoes_50 : decode cX12_debtGoes 50 = .ok (.iconst 5, 1) := by decide +kernel
theorem dX12_debtGoes_51 : decode cX12_debtGoes 51 = .ok (.iaload, 1) := by decide +kernel
theorem dX12_debtGoes_52 : decode cX12_debtGoes 52 = .ok (.i2l, 1) := by decide +kernel
theorem dX12_debtGoes_53 : decode cX12_debtGoes 53 = .ok (.lmul, 1) := by decide +kernel
theorem dX12_debtGoes_54 : decode cX12_debtGoes 54 = .ok (.ldc2_w 500, 3) := by decide +kernel
theorem dX12_debtGoes_57 : decode cX12_debtGoes 57 = .ok (.ldiv, 1) := by decide +kernel
theorem dX12_debtGoes_58 : decode cX12_debtGoes 58 = .ok (.ladd, 1) := by decide +kernel
theorem dX12_debtGoes_59 : decode cX12_debtGoes 59 = .ok (.lstore_n 2, 1) := by decide +kernel
theorem dX12_debtGoes_60 : decode cX12_debtGoes 60 = .ok (.aload_n 0, 1) := by decide +kernel
theorem dX12_debtGoes_61 : decode cX12_debtGoes 61 = .ok (.getfield 139, 3) := by decide +kernel
theorem dX12_debtGoes_64 : decode cX12_debtGoes 64 = .ok (.iconst 1, 1) := by decide +kernel
theorem dX12_debtGoes_65 : decode cX12_debtGoes 65 = .ok (.lload_n 2, 1) := by decide +kernel
theorem dX12_debtGoes_66 : decode cX12_debtGoes 66 = .ok (.ldc2_w 502, 3) := by decide +kernel
theorem dX12_debtGoes_69 : decode cX12_debtGoes 69 = .ok (.lcmp, 1) := by decide +kernel
theorem dX12_debtGoes_70 : decode cX12_debtGoes 70 = .ok (.ifCond .le 9, 3) := by decide +kernel
theorem dX12_debtGoes_73 : decode cX12_debtGoes 73 = .ok (.ldc_w 504, 3) := by decide +kernel
theorem dX12_debtGoes_76 : decode cX12_debtGoes 76 = .ok (.goto 5, 3) := by decide +kernel
theorem dX12_debtGoes_79 : decode cX12_debtGoes 79 = .ok (.lload_n 2, 1) := by decide +kernel
theorem dX12_debtGoes_80 : decode cX12_debtGoes 80 = .ok (.l2i, 1) := by decide +kernel
theorem dX12_debtGoes_81 : decode cX12_debtGoes 81 = .ok (.iastore, 1) := by decide +kernel
theorem dX12_debtGoes_82 : decode cX12_debtGoes 82 = .ok (.return_, 1) := by decide +kernel
def f_X12_debtGoes_81 (z1 : Int32) (z2 : Int32) (S : Hp) : Option Hp :=
  stI S 55 117 z1 z2 (fun S1 => some S1)
set_option maxHeartbeats 4000000 in
set_option maxRecDepth 100000 in
theorem w_X12_debtGoes_81 {p : Program} {l : Launch} {e : Env} {s : State} {m : MethodId} {args : Array Value} {below : List Frame} {meth : Method} {c : Code} {E : Ev} {S0 : Hp} {r : Hp} (C : ho_I p s m args meth c RX12 cX12_debtGoes 4 none) :
    ∀ (z1 : Int32) (z2 : Int32) (S : Hp), f_X12_debtGoes_81 z1 z2 S = some r → ho_G p l e s m args below meth c yM E S0 0 4 (none, r) 81 [] [.int z2, .int z1, .ref (E.2.1 55)] S := by
  intro z1 z2 S h H locs ls hR hl
  unfold f_X12_debtGoes_81 at h
  obtain ⟨S1, e1, hi1, h⟩ := stI_ok h
  refine hr_ist C hR aM_55 hi1 e1 dX12_debtGoes_81 (fun H locs hR => ?_)
  exact ho_vret C hR h dX12_debtGoes_82
def f_X12_debtGoes_44 (x2 : Int64) (S : Hp) : Option Hp :=
  ldI S 43 6 (5 : Int32) (fun v1 => le1 (x2 + ((x2 * (v1.toInt64)) / (100 : Int64))) (fun v2 => if (lg_cmp v2 (99999 : Int64)) ≤ 0 then f_X12_debtGoes_81 (1 : Int32) (v2.toInt32) S else f_X12_debtGoes_81 (1 : Int32) (99999 : Int32) S))
set_option maxHeartbeats 4000000 in
set_option maxRecDepth 100000 in
theorem w_X12_debtGoes_44 {p : Program} {l : Launch} {e : Env} {s : State} {m : MethodId} {args : Array Value} {below : List Frame} {meth : Method} {c : Code} {E : Ev} {S0 : Hp} {r : Hp} (C : ho_I p s m args meth c RX12 cX12_debtGoes 4 none) :
    ∀ (x2 : Int64) (S : Hp), f_X12_debtGoes_44 x2 S = some r → ho_G p l e s m args below meth c yM E S0 0 4 (none, r) 44 [(0, .ref (E.2.1 0)), (2, .long x2)] [] S := by
  intro x2 S h H locs ls hR hl
  unfold f_X12_debtGoes_44 at h
  refine lv_lload_n C.1 C.2.1 dX12_debtGoes_44 rfl (lv_at hl 1 rfl) ?_
  refine lv_lload_n C.1 C.2.1 dX12_debtGoes_45 rfl (lv_at hl 1 rfl) ?_
  refine lv_aload_n C.1 C.2.1 dX12_debtGoes_46 rfl (lv_at hl 0 rfl) ?_
  refine ho_getR (a' := 43) C cf12 fM_115 hR aM_0 rfl dX12_debtGoes_47 ?_
  refine lv_iconst (v := (5 : Int32)) C.1 C.2.1 dX12_debtGoes_50 (by decide) ?_
  obtain ⟨v1, e1, hi1, h⟩ := ldI_ok h
  refine hr_ild C hR aM_43 hi1 e1 dX12_debtGoes_51 ?_
  refine lv_i2l (v := (v1.toInt64)) C.1 C.2.1 dX12_debtGoes_52 rfl ?_
  refine lv_lmul C.1 C.2.1 dX12_debtGoes_53 ?_
  refine lv_ldc2 (v := (100 : Int64)) C.1 C.2.1 C.2.2.2.2.1 (C.2.2.2.2.2.1 _ kc_RX12_500) dX12_debtGoes_54 ?_
  refine lv_ldiv C.1 C.2.1 dX12_debtGoes_57 (by decide) ?_
  refine lv_ladd C.1 C.2.1 dX12_debtGoes_58 ?_
  refine lv_topl (fun v2 e2 => ?_)
  replace h := le1_at e2 h
  refine lv_lstore_n (lv' := [(2, .long v2), (0, .ref (E.2.1 0))]) C.1 C.2.1 dX12_debtGoes_59 rfl hl (by decide) rfl (fun ls hl => ?_)
  refine lv_aload_n C.1 C.2.1 dX12_debtGoes_60 rfl (lv_at hl 1 rfl) ?_
  refine ho_getR (a' := 55) C cf12 fM_139 hR aM_0 rfl dX12_debtGoes_61 ?_
  refine lv_iconst (v := (1 : Int32)) C.1 C.2.1 dX12_debtGoes_64 (by decide) ?_
  refine lv_lload_n C.1 C.2.1 dX12_debtGoes_65 rfl (lv_at hl 0 rfl) ?_
  refine lv_ldc2 (v := (99999 : Int64)) C.1 C.2.1 C.2.2.2.2.1 (C.2.2.2.2.2.1 _ kc_RX12_502) dX12_debtGoes_66 ?_
  refine W.lcmp C.1 C.2.1 dX12_debtGoes_69 ?_
  refine lv_if_le (tgt := 79) C.1 C.2.1 dX12_debtGoes_70 (by decide) (fun hc => ?_) (fun hc => ?_)
  · replace h := if_t h hc
    refine lv_lload_n C.1 C.2.1 dX12_debtGoes_79 rfl (lv_at hl 0 rfl) ?_
    refine lv_l2i (v := (v2.toInt32)) C.1 C.2.1 dX12_debtGoes_80 rfl ?_
    exact w_X12_debtGoes_81 C (1 : Int32) (v2.toInt32) S h _ _ _ hR (lv_sub hl [] rfl)
  · replace h := if_f h hc
    refine lv_ldcw (v := (99999 : Int32)) C.1 C.2.1 C.2.2.2.2.1 (C.2.2.2.2.2.1 _ kc_RX12_504) dX12_debtGoes_73 ?_
    refine lv_goto (tgt := 81) C.1 C.2.1 dX12_debtGoes_76 (by decide) ?_
    exact w_X12_debtGoes_81 C (1 : Int32) (99999 : Int32) S h _ _ _ hR (lv_sub hl [] rfl)
def f_X12_debtGoes_26 (x1 : Int32) (S : Hp) : Option Hp :=
  ldI S 55 117 (1 : Int32) (fun v1 => le1 ((v1 - x1).toInt64) (fun v2 => if 0 ≤ (lg_cmp v2 (0 : Int64)) then f_X12_debtGoes_44 v2 S else f_X12_debtGoes_44 (0 : Int64) S))
set_option maxHeartbeats 4000000 in
set_option maxRecDepth 100000 in
theorem w_X12_debtGoes_26 {p : Program} {l : Launch} {e : Env} {s : State} {m : MethodId} {args : Array Value} {below : List Frame} {meth : Method} {c : Code} {E : Ev} {S0 : Hp} {r : Hp} (C : ho_I p s m args meth c RX12 cX12_debtGoes 4 none) :
    ∀ (x1 : Int32) (S : Hp), f_X12_debtGoes_26 x1 S = some r → ho_G p l e s m args below meth c yM E S0 0 4 (none, r) 26 [(0, .ref (E.2.1 0)), (1, .int x1)] [] S := by
  intro x1 S h H locs ls hR hl
  unfold f_X12_debtGoes_26 at h
  refine lv_aload_n C.1 C.2.1 dX12_debtGoes_26 rfl (lv_at hl 0 rfl) ?_
  refine ho_getR (a' := 55) C cf12 fM_139 hR aM_0 rfl dX12_debtGoes_27 ?_
  refine lv_iconst (v := (1 : Int32)) C.1 C.2.1 dX12_debtGoes_30 (by decide) ?_
  obtain ⟨v1, e1, hi1, h⟩ := ldI_ok h
  refine hr_ild C hR aM_55 hi1 e1 dX12_debtGoes_31 ?_
  refine lv_iload_n C.1 C.2.1 dX12_debtGoes_32 rfl (lv_at hl 1 rfl) ?_
  refine lv_isub C.1 C.2.1 dX12_debtGoes_33 ?_
  refine lv_i2l (v := ((v1 - x1).toInt64)) C.1 C.2.1 dX12_debtGoes_34 rfl ?_
  refine lv_topl (fun v2 e2 => ?_)
  replace h := le1_at e2 h
  refine lv_lstore_n (lv' := [(2, .long v2), (0, .ref (E.2.1 0)), (1, .int x1)]) C.1 C.2.1 dX12_debtGoes_35 rfl hl (by decide) rfl (fun ls hl => ?_)
  refine lv_lload_n C.1 C.2.1 dX12_debtGoes_36 rfl (lv_at hl 0 rfl) ?_
  refine lv_lconst (v := (0 : Int64)) C.1 C.2.1 dX12_debtGoes_37 (by decide) ?_
  refine W.lcmp C.1 C.2.1 dX12_debtGoes_38 ?_
  refine lv_if_ge (tgt := 44) C.1 C.2.1 dX12_debtGoes_39 (by decide) (fun hc => ?_) (fun hc => ?_)
  · replace h := if_t h hc
    exact w_X12_debtGoes_44 C v2 S h _ _ _ hR (lv_sub hl [1, 0] rfl)
  · replace h := if_f h hc
    refine lv_lconst (v := (0 : Int64)) C.1 C.2.1 dX12_debtGoes_42 (by decide) ?_
    refine lv_lstore_n (lv' := [(2, .long (0 : Int64)), (0, .ref (E.2.1 0)), (1, .int x1)]) C.1 C.2.1 dX12_debtGoes_43 rfl hl (by decide) rfl (fun ls hl => ?_)
    exact w_X12_debtGoes_44 C (0 : Int64) S h _ _ _ hR (lv_sub hl [1, 0] rfl)
def f_X12_debtGoes (S : Hp) : Option Hp :=
  ldI S 43 6 (3 : Int32) (fun v1 => le1 ((S.1 0 64) - v1) (fun v2 => if v2 < 0 then f_X12_debtGoes_26 v2 S else le1 (ho_sI S 0 63 ((S.1 0 63) + (1 : Int32))) (fun S3 => f_X12_debtGoes_26 v2 S3)))
set_option maxHeartbeats 4000000 in
set_option maxRecDepth 100000 in
theorem c_X12_debtGoes (l : Launch) (E : Ev) (S : Hp) (r : Hp) (h : f_X12_debtGoes S = some r) : ho_M l yM E yX12_debtGoes cX12_debtGoes 4 none 0 [.ref (E.2.1 0)] S (none, r) := by
  refine ho_in (by decide) (Nat.le_of_ble_eq_true rfl) ?_
  intro p e s m args below meth c C hR ls hl
  have C : ho_I p s m args meth c RX12 cX12_debtGoes 4 none := C
  have hl : lv_has ls 4 [(0, .ref (E.2.1 0))] := hl
  unfold f_X12_debtGoes at h
  refine lv_aload_n C.1 C.2.1 dX12_debtGoes_0 rfl (lv_at hl 0 rfl) ?_
  refine ho_getI C cf12 fM_491 hR aM_0 dX12_debtGoes_1 ?_
  refine lv_aload_n C.1 C.2.1 dX12_debtGoes_4 rfl (lv_at hl 0 rfl) ?_
  refine ho_getR (a' := 43) C cf12 fM_115 hR aM_0 rfl dX12_debtGoes_5 ?_
  refine lv_iconst (v := (3 : Int32)) C.1 C.2.1 dX12_debtGoes_8 (by decide) ?_
  obtain ⟨v1, e1, hi1, h⟩ := ldI_ok h
  refine hr_ild C hR aM_43 hi1 e1 dX12_debtGoes_9 ?_
  refine lv_isub C.1 C.2.1 dX12_debtGoes_10 ?_
  refine lv_topi (fun v2 e2 => ?_)
  replace h := le1_at e2 h
  refine lv_istore_n (lv' := [(1, .int v2), (0, .ref (E.2.1 0))]) C.1 C.2.1 dX12_debtGoes_11 rfl hl (by decide) rfl (fun ls hl => ?_)
  refine lv_iload_n C.1 C.2.1 dX12_debtGoes_12 rfl (lv_at hl 0 rfl) ?_
  refine lv_if_lt (tgt := 26) C.1 C.2.1 dX12_debtGoes_13 (by decide) (fun hc => ?_) (fun hc => ?_)
  · replace h := if_t h hc
    exact w_X12_debtGoes_26 C v2 S h _ _ _ hR (lv_sub hl [1, 0] rfl)
  · replace h := if_f h hc
    refine lv_aload_n C.1 C.2.1 dX12_debtGoes_16 rfl (lv_at hl 1 rfl) ?_
    refine lv_dup C.1 C.2.1 dX12_debtGoes_17 rfl ?_
    refine ho_getI C cf12 fM_497 hR aM_0 dX12_debtGoes_18 ?_
    refine lv_iconst (v := (1 : Int32)) C.1 C.2.1 dX12_debtGoes_21 (by decide) ?_
    refine lv_iadd C.1 C.2.1 dX12_debtGoes_22 ?_
    obtain ⟨S3, e3, h⟩ := le1_ok h
    refine hr_putI C cf12 fM_497 hR aM_0 e3 dX12_debtGoes_23 (fun H locs hR => ?_)
    exact w_X12_debtGoes_26 C v2 S3 h _ _ _ hR (lv_sub hl [1, 0] rfl)
theorem dX12_yearEnds_0 : decode cX12_yearEnds 0 = .ok (.aload_n 0, 1) := by decide +kernel
theorem dX12_yearEnds_1 : decode cX12_yearEnds 1 = .ok (.iload_n 1, 1) := by decide +kernel
theorem dX12_yearEnds_2 : decode cX12_yearEnds 2 = .ok (.invokevirtual 505, 3) := by decide +kernel
theorem dX12_yearEnds_5 : decode cX12_yearEnds 5 = .ok (.aload_n 0, 1) := by decide +kernel
theorem dX12_yearEnds_6 : decode cX12_yearEnds 6 = .ok (.invokevirtual 508, 3) := by decide +kernel
theorem dX12_yearEnds_9 : decode cX12_yearEnds 9 = .ok (.aload_n 0, 1) := by decide +kernel
theorem dX12_yearEnds_10 : decode cX12_yearEnds 10 = .ok (.getfield 139, 3) := by decide +kernel
theorem dX12_yearEnds_13 : decode cX12_yearEnds 13 = .ok (.iconst 0, 1) := by decide +kernel
theorem dX12_yearEnds_14 : decode cX12_yearEnds 14 = .ok (.dup2, 1) := by decide +kernel
theorem dX12_yearEnds_15 : decode cX12_yearEnds 15 = .ok (.iaload, 1) := by decide +kernel
theorem dX12_yearEnds_16 : decode cX12_yearEnds 16 = .ok (.iconst 1, 1) := by decide +kernel
theorem dX12_yearEnds_17 : decode cX12_yearEnds 17 = .ok (.iadd, 1) := by decide +kernel
theorem dX12_yearEnds_18 : decode cX12_yearEnds 18 = .ok (.iastore, 1) := by decide +kernel
theorem dX12_yearEnds_19 : decode cX12_yearEnds 19 = .ok (.return_, 1) := by decide +kernel
def f_X12_yearEnds (x1 : Int32) (S : Hp) : Option Hp :=
  ob (f_X12_showGoes x1 S) (fun S1 => ob (f_X12_debtGoes S1) (fun S2 => ldI S2 55 117 (0 : Int32) (fun v3 => stI S2 55 117 (0 : Int32) (v3 + (1 : Int32)) (fun S4 => some S4))))
set_option maxHeartbeats 4000000 in
set_option maxRecDepth 100000 in
theorem c_X12_yearEnds (l : Launch) (E : Ev) (x1 : Int32) (S : Hp) (r : Hp) (h : f_X12_yearEnds x1 S = some r) : ho_M l yM E yX12_yearEnds cX12_yearEnds 2 none 7 [.ref (E.2.1 0), .int x1] S (none, r) := by
  refine ho_in (by decide) (Nat.le_of_ble_eq_true rfl) ?_
  intro p e s m args below meth c C hR ls hl
  have C : ho_I p s m args meth c RX12 cX12_yearEnds 2 none := C
  have hl : lv_has ls 2 [(0, .ref (E.2.1 0)), (1, .int x1)] := hl
  unfold f_X12_yearEnds at h
  refine lv_aload_n C.1 C.2.1 dX12_yearEnds_0 rfl (lv_at hl 0 rfl) ?_
  refine lv_iload_n C.1 C.2.1 dX12_yearEnds_1 rfl (lv_at hl 1 rfl) ?_
  obtain ⟨S1, h1, h⟩ := ob_ok h
  refine hr_Vv (S' := S1) (As := [.int x1]) (rest := []) C cf12 (c_X12_showGoes l E x1 _ _ h1) yv_X12_showGoes lk_RX12_505 rfl aM_0 rfl rfl hl.1 (Nat.le_of_ble_eq_true rfl) (by decide) (by decide) hR (ho_A hR) dX12_yearEnds_2 (fun H locs hR => ?_)
  refine lv_aload_n C.1 C.2.1 dX12_yearEnds_5 rfl (lv_at hl 0 rfl) ?_
  obtain ⟨S2, h2, h⟩ := ob_ok h
  refine hr_Vv (S' := S2) (As := []) (rest := []) C cf12 (c_X12_debtGoes l E _ _ h2) yv_X12_debtGoes lk_RX12_508 rfl aM_0 rfl rfl hl.1 (Nat.le_of_ble_eq_true rfl) (by decide) (by decide) hR (ho_A hR) dX12_yearEnds_6 (fun H locs hR => ?_)
  refine lv_aload_n C.1 C.2.1 dX12_yearEnds_9 rfl (lv_at hl 0 rfl) ?_
  refine ho_getR (a' := 55) C cf12 fM_139 hR aM_0 rfl dX12_yearEnds_10 ?_
  refine lv_iconst (v := (0 : Int32)) C.1 C.2.1 dX12_yearEnds_13 (by decide) ?_
  refine lv_dup2_11 C.1 C.2.1 dX12_yearEnds_14 rfl rfl ?_
  obtain ⟨v3, e3, hi3, h⟩ := ldI_ok h
  refine hr_ild C hR aM_55 hi3 e3 dX12_yearEnds_15 ?_
  refine lv_iconst (v := (1 : Int32)) C.1 C.2.1 dX12_yearEnds_16 (by decide) ?_
  refine lv_iadd C.1 C.2.1 dX12_yearEnds_17 ?_
  obtain ⟨S4, e4, hi4, h⟩ := stI_ok h
  refine hr_ist C hR aM_55 hi4 e4 dX12_yearEnds_18 (fun H locs hR => ?_)
  exact ho_vret C hR h dX12_yearEnds_19
theorem dX12_yearGoes_0 : decode cX12_yearGoes 0 = .ok (.aload_n 0, 1) := by decide +kernel
theorem dX12_yearGoes_1 : decode cX12_yearGoes 1 = .ok (.invokevirtual 458, 3) := by decide +kernel
theorem dX12_yearGoes_4 : decode cX12_yearGoes 4 = .ok (.aload_n 0, 1) := by decide +kernel
theorem dX12_yearGoes_5 : decode cX12_yearGoes 5 = .ok (.aload_n 0, 1) := by decide +kernel
theorem dX12_yearGoes_6 : decode cX12_yearGoes 6 = .ok (.invokevirtual 511, 3) := by decide +kernel
theorem dX12_yearGoes_9 : decode cX12_yearGoes 9 = .ok (.invokevirtual 514, 3) := by decide +kernel
theorem dX12_yearGoes_12 : decode cX12_yearGoes 12 = .ok (.return_, 1) := by decide +kernel
def f_X12_yearGoes (S : Hp) : Option Hp :=
  ob (f_X12_yieldsCome S) (fun S1 => ob2 (f_X12_bestShow S1) (fun r2 S2 => ob (f_X12_yearEnds r2 S2) (fun S3 => some S3)))
set_option maxHeartbeats 4000000 in
set_option maxRecDepth 100000 in
theorem c_X12_yearGoes (l : Launch) (E : Ev) (S : Hp) (r : Hp) (h : f_X12_yearGoes S = some r) : ho_M l yM E yX12_yearGoes cX12_yearGoes 1 none 8 [.ref (E.2.1 0)] S (none, r) := by
  refine ho_in (by decide) (Nat.le_of_ble_eq_true rfl) ?_
  intro p e s m args below meth c C hR ls hl
  have C : ho_I p s m args meth c RX12 cX12_yearGoes 1 none := C
  have hl : lv_has ls 1 [(0, .ref (E.2.1 0))] := hl
  unfold f_X12_yearGoes at h
  refine lv_aload_n C.1 C.2.1 dX12_yearGoes_0 rfl (lv_at hl 0 rfl) ?_
  obtain ⟨S1, h1, h⟩ := ob_ok h
  refine hr_Vv (S' := S1) (As := []) (rest := []) C cf12 (c_X12_yieldsCome l E _ _ h1) yv_X12_yieldsCome lk_RX12_458 rfl aM_0 rfl rfl hl.1 (Nat.le_of_ble_eq_true rfl) (by decide) (by decide) hR (ho_A hR) dX12_yearGoes_1 (fun H locs hR => ?_)
  refine lv_aload_n C.1 C.2.1 dX12_yearGoes_4 rfl (lv_at hl 0 rfl) ?_
  refine lv_aload_n C.1 C.2.1 dX12_yearGoes_5 rfl (lv_at hl 0 rfl) ?_
  obtain ⟨r2, S2, h2, h⟩ := ob2_ok h
  refine hr_Vi (v := r2) (S' := S2) (As := []) (rest := [.ref (E.2.1 0)]) C cf12 (c_X12_bestShow l E _ _ h2) yv_X12_bestShow lk_RX12_511 rfl aM_0 rfl rfl hl.1 (Nat.le_of_ble_eq_true rfl) (by decide) (by decide) hR (ho_A hR) dX12_yearGoes_6 (fun H locs hR => ?_)
  obtain ⟨S3, h3, h⟩ := ob_ok h
  refine hr_Vv (S' := S3) (As := [.int r2]) (rest := []) C cf12 (c_X12_yearEnds l E r2 _ _ h3) yv_X12_yearEnds lk_RX12_514 rfl aM_0 rfl rfl hl.1 (Nat.le_of_ble_eq_true rfl) (by decide) (by decide) hR (ho_A hR) dX12_yearGoes_9 (fun H locs hR => ?_)
  exact ho_vret C hR h dX12_yearGoes_12
theorem dX12_yearsGo_0 : decode cX12_yearsGo 0 = .ok (.iconst 0, 1) := by decide +kernel
theorem dX12_yearsGo_1 : decode cX12_yearsGo 1 = .ok (.istore_n 2, 1) := by decide +kernel
theorem dX12_yearsGo_2 : decode cX12_yearsGo 2 = .ok (.iload_n 2, 1) := by decide +kernel
theorem dX12_yearsGo_3 : decode cX12_yearsGo 3 = .ok (.iload_n 1, 1) := by decide +kernel
theorem dX12_yearsGo_4 : decode cX12_yearsGo 4 = .ok (.if_icmp .ge 13, 3) := by decide +kernel
theorem dX12_yearsGo_7 : decode cX12_yearsGo 7 = .ok (.aload_n 0, 1) := by decide +kernel
theorem dX12_yearsGo_8 : decode cX12_yearsGo 8 = .ok (.invokevirtual 517, 3) := by decide +kernel
theorem dX12_yearsGo_11 : decode cX12_yearsGo 11 = .ok (.iinc 2 1, 3) := by decide +kernel
theorem dX12_yearsGo_14 : decode cX12_yearsGo 14 = .ok (.goto (-12), 3) := by decide +kernel
theorem dX12_yearsGo_17 : decode cX12_yearsGo 17 = .ok (.return_, 1) := by decide +kernel
def f_X12_yearsGo_2 : Nat → Int32 → Int32 → Hp → Option Hp
  | 0, _, _, _ => none
  | k + 1, x1, x2, S => if x1 ≤ x2 then some S else ob (f_X12_yearGoes S) (fun S1 => le1 (x2 + (1 : Int32)) (fun v2 => f_X12_yearsGo_2 k x1 v2 S1))
set_option maxHeartbeats 4000000 in
set_option maxRecDepth 100000 in
theorem w_X12_yearsGo_2 {p : Program} {l : Launch} {e : Env} {s : State} {m : MethodId} {args : Array Value} {below : List Frame} {meth : Method} {c : Code} {E : Ev} {S0 : Hp} {r : Hp} (C : ho_I p s m args meth c RX12 cX12_yearsGo 3 none) :
    ∀ (k : Nat) (x1 : Int32) (x2 : Int32) (S : Hp), f_X12_yearsGo_2 k x1 x2 S = some r → ho_G p l e s m args below meth c yM E S0 9 3 (none, r) 2 [(0, .ref (E.2.1 0)), (1, .int x1), (2, .int x2)] [] S := by
  intro k
  induction k with
  | zero =>
    intro x1 x2 S h
    exact absurd (show (none : Option Hp) = some r from h) (by simp)
  | succ k ih =>
    intro x1 x2 S h H locs ls hR hl
    rw [f_X12_yearsGo_2] at h
    refine lv_iload_n C.1 C.2.1 dX12_yearsGo_2 rfl (lv_at hl 2 rfl) ?_
    refine lv_iload_n C.1 C.2.1 dX12_yearsGo_3 rfl (lv_at hl 1 rfl) ?_
    refine lv_icmp_ge (tgt := 17) C.1 C.2.1 dX12_yearsGo_4 (by decide) (fun hc => ?_) (fun hc => ?_)
    · replace h := if_t h hc
      exact ho_vret C hR h dX12_yearsGo_17
    · replace h := if_f h hc
      refine lv_aload_n C.1 C.2.1 dX12_yearsGo_7 rfl (lv_at hl 0 rfl) ?_
      obtain ⟨S1, h1, h⟩ := ob_ok h
      refine hr_Vv (S' := S1) (As := []) (rest := []) C cf12 (c_X12_yearGoes l E _ _ h1) yv_X12_yearGoes lk_RX12_517 rfl aM_0 rfl rfl hl.1 (Nat.le_of_ble_eq_true rfl) (by decide) (by decide) hR (ho_A hR) dX12_yearsGo_8 (fun H locs hR => ?_)
      obtain ⟨v2, e2, h⟩ := le1_ok h
      refine lv_iinc (v := v2) (lv' := [(2, .int v2), (0, .ref (E.2.1 0)), (1, .int x1)]) C.1 C.2.1 dX12_yearsGo_11 hl (k := 2) rfl (by rw [e2]; rfl) (by decide) rfl (fun ls hl => ?_)
      refine lv_goto (tgt := 2) C.1 C.2.1 dX12_yearsGo_14 (by decide) ?_
      exact ih x1 v2 S1 h _ _ _ hR (lv_sub hl [1, 2, 0] rfl)
def f_X12_yearsGo (x1 : Int32) (S : Hp) : Option Hp :=
  f_X12_yearsGo_2 5000 x1 (0 : Int32) S
set_option maxHeartbeats 4000000 in
set_option maxRecDepth 100000 in
theorem c_X12_yearsGo (l : Launch) (E : Ev) (x1 : Int32) (S : Hp) (r : Hp) (h : f_X12_yearsGo x1 S = some r) : ho_M l yM E yX12_yearsGo cX12_yearsGo 3 none 9 [.ref (E.2.1 0), .int x1] S (none, r) := by
  refine ho_in (by decide) (Nat.le_of_ble_eq_true rfl) ?_
  intro p e s m args below meth c C hR ls hl
  have C : ho_I p s m args meth c RX12 cX12_yearsGo 3 none := C
  have hl : lv_has ls 3 [(0, .ref (E.2.1 0)), (1, .int x1)] := hl
  unfold f_X12_yearsGo at h
  refine lv_iconst (v := (0 : Int32)) C.1 C.2.1 dX12_yearsGo_0 (by decide) ?_
  refine lv_istore_n (lv' := [(2, .int (0 : Int32)), (0, .ref (E.2.1 0)), (1, .int x1)]) C.1 C.2.1 dX12_yearsGo_1 rfl hl (by decide) rfl (fun ls hl => ?_)
  exact w_X12_yearsGo_2 C 5000 x1 (0 : Int32) S h _ _ _ hR (lv_sub hl [1, 2, 0] rfl)
