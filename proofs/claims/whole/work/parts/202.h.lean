theorem dX1_find_0 : decode cX1_find 0 = .ok (.aload_n 0, 1) := by decide +kernel
theorem dX1_find_1 : decode cX1_find 1 = .ok (.getfield 39, 3) := by decide +kernel
theorem dX1_find_4 : decode cX1_find 4 = .ok (.aload_n 1, 1) := by decide +kernel
theorem dX1_find_5 : decode cX1_find 5 = .ok (.invokevirtual 64, 3) := by decide +kernel
theorem dX1_find_8 : decode cX1_find 8 = .ok (.istore_n 2, 1) := by decide +kernel
theorem dX1_find_9 : decode cX1_find 9 = .ok (.aload_n 0, 1) := by decide +kernel
theorem dX1_find_10 : decode cX1_find 10 = .ok (.iconst 0, 1) := by decide +kernel
theorem dX1_find_11 : decode cX1_find 11 = .ok (.putfield 15, 3) := by decide +kernel
theorem dX1_find_14 : decode cX1_find 14 = .ok (.iconst 0, 1) := by decide +kernel
theorem dX1_find_15 : decode cX1_find 15 = .ok (.istore_n 3, 1) := by decide +kernel
theorem dX1_find_16 : decode cX1_find 16 = .ok (.iload_n 3, 1) := by decide +kernel
theorem dX1_find_17 : decode cX1_find 17 = .ok (.iload_n 2, 1) := by decide +kernel
theorem dX1_find_18 : decode cX1_find 18 = .ok (.if_icmp .gt 45, 3) := by decide +kernel
theorem dX1_find_21 : decode cX1_find 21 = .ok (.iload_n 3, 1) := by decide +kernel
theorem dX1_find_22 : decode cX1_find 22 = .ok (.bipush 64, 2) := by decide +kernel
theorem dX1_find_24 : decode cX1_find 24 = .ok (.if_icmp .ge 39, 3) := by decide +kernel
theorem dX1_find_27 : decode cX1_find 27 = .ok (.iload_n 3, 1) := by decide +kernel
theorem dX1_find_28 : decode cX1_find 28 = .ok (.iload_n 2, 1) := by decide +kernel
theorem dX1_find_29 : decode cX1_find 29 = .ok (.iconst (-1), 1) := by decide +kernel
theorem dX1_find_30 : decode cX1_find 30 = .ok (.ixor, 1) := by decide +kernel
theorem dX1_find_31 : decode cX1_find 31 = .ok (.iand, 1) := by decide +kernel
theorem dX1_find_32 : decode cX1_find 32 = .ok (.ifCond .ne 25, 3) := by decide +kernel
theorem dX1_find_35 : decode cX1_find 35 = .ok (.aload_n 0, 1) := by decide +kernel
theorem dX1_find_36 : decode cX1_find 36 = .ok (.getfield 39, 3) := by decide +kernel
theorem dX1_find_39 : decode cX1_find 39 = .ok (.aload_n 1, 1) := by decide +kernel
theorem dX1_find_40 : decode cX1_find 40 = .ok (.iload_n 3, 1) := by decide +kernel
theorem dX1_find_41 : decode cX1_find 41 = .ok (.invokevirtual 68, 3) := by decide +kernel
theorem dX1_find_44 : decode cX1_find 44 = .ok (.pop, 1) := by decide +kernel
theorem dX1_find_45 : decode cX1_find 45 = .ok (.aload_n 0, 1) := by decide +kernel
theorem dX1_find_46 : decode cX1_find 46 = .ok (.invokevirtual 72, 3) := by decide +kernel
theorem dX1_find_49 : decode cX1_find 49 = .ok (.ifCond .eq 8, 3) := by decide +kernel
theorem dX1_find_52 : decode cX1_find 52 = .ok (.aload_n 0, 1) := by decide +kernel
theorem dX1_find_53 : decode cX1_find 53 = .ok (.iload_n 3, 1) := by decide +kernel
theorem dX1_find_54 : decode cX1_find 54 = .ok (.invokevirtual 76, 3) := by decide +kernel
theorem dX1_find_57 : decode cX1_find 57 = .ok (.iinc 3 1, 3) := by decide +kernel
theorem dX1_find_60 : decode cX1_find 60 = .ok (.goto (-44), 3) := by decide +kernel
theorem dX1_find_63 : decode cX1_find 63 = .ok (.return_, 1) := by decide +kernel
def f_X1_find_57 (K16 : Int32 → Int32 → Hp → Option Hp) (a1 : Nat) (x2 : Int32) (x3 : Int32) (S : Hp) : Option Hp :=
  le1 (x3 + (1 : Int32)) (fun v1 => K16 x2 v1 S)
set_option maxHeartbeats 4000000 in
set_option maxRecDepth 100000 in
theorem w_X1_find_57 {p : Program} {l : Launch} {e : Env} {s : State} {m : MethodId} {args : Array Value} {below : List Frame} {meth : Method} {c : Code} {E : Ev} {S0 : Hp} {r : Hp} (C : ho_I p s m args meth c RX1 cX1_find 4 none) (K16 : Int32 → Int32 → Hp → Option Hp) (a1 : Nat) (ha1 : a1 ∈ yH.1 ∧ yH.2.1 a1 = (1, 9)) (hK16 : ∀ (y2 : Int32) (y3 : Int32) (S : Hp), K16 y2 y3 S = some r → ho_G p l e s m args below meth c yH E S0 2 4 (none, r) 16 [(0, .ref (E.2.1 70)), (1, .ref (E.2.1 a1)), (2, .int y2), (3, .int y3)] [] S) :
    ∀ (x2 : Int32) (x3 : Int32) (S : Hp), f_X1_find_57 K16 a1 x2 x3 S = some r → ho_G p l e s m args below meth c yH E S0 2 4 (none, r) 57 [(0, .ref (E.2.1 70)), (1, .ref (E.2.1 a1)), (2, .int x2), (3, .int x3)] [] S := by
  intro x2 x3 S h H locs ls hR hl
  unfold f_X1_find_57 at h
  obtain ⟨v1, e1, h⟩ := le1_ok h
  refine lv_iinc (v := v1) (lv' := [(3, .int v1), (0, .ref (E.2.1 70)), (1, .ref (E.2.1 a1)), (2, .int x2)]) C.1 C.2.1 dX1_find_57 hl (k := 3) rfl (by rw [e1]; rfl) (by decide) rfl (fun ls hl => ?_)
  refine lv_goto (tgt := 16) C.1 C.2.1 dX1_find_60 (by decide) ?_
  exact hK16 x2 v1 S h _ _ _ hR (lv_sub hl [1, 2, 3, 0] rfl)
def f_X1_find_16 (a1 : Nat) : Nat → Int32 → Int32 → Hp → Option Hp
  | 0, _, _, _ => none
  | k + 1, x2, x3, S => if x2 < x3 then some S else if (64 : Int32) ≤ x3 then some S else if (x3 &&& (x2 ^^^ (-1 : Int32))) = 0 then ob2 (f_X8_takeAll a1 x3 S) (fun r1 S1 => ob2 (f_X1_isSo S1) (fun r2 S2 => if r2 = 0 then f_X1_find_57 (f_X1_find_16 a1 k) a1 x2 x3 S2 else ob (f_X1_addFitting x3 S2) (fun S3 => f_X1_find_57 (f_X1_find_16 a1 k) a1 x2 x3 S3))) else f_X1_find_57 (f_X1_find_16 a1 k) a1 x2 x3 S
set_option maxHeartbeats 4000000 in
set_option maxRecDepth 100000 in
theorem w_X1_find_16 {p : Program} {l : Launch} {e : Env} {s : State} {m : MethodId} {args : Array Value} {below : List Frame} {meth : Method} {c : Code} {E : Ev} {S0 : Hp} {r : Hp} (C : ho_I p s m args meth c RX1 cX1_find 4 none) (a1 : Nat) (ha1 : a1 ∈ yH.1 ∧ yH.2.1 a1 = (1, 9)) :
    ∀ (k : Nat) (x2 : Int32) (x3 : Int32) (S : Hp), f_X1_find_16 a1 k x2 x3 S = some r → ho_G p l e s m args below meth c yH E S0 2 4 (none, r) 16 [(0, .ref (E.2.1 70)), (1, .ref (E.2.1 a1)), (2, .int x2), (3, .int x3)] [] S := by
  intro k
  induction k with
  | zero =>
    intro x2 x3 S h
    exact absurd (show (none : Option Hp) = some r from h) (by simp)
  | succ k ih =>
    intro x2 x3 S h H locs ls hR hl
    rw [f_X1_find_16] at h
    refine lv_iload_n C.1 C.2.1 dX1_find_16 rfl (lv_at hl 3 rfl) ?_
    refine lv_iload_n C.1 C.2.1 dX1_find_17 rfl (lv_at hl 2 rfl) ?_
    refine lv_icmp_gt (tgt := 63) C.1 C.2.1 dX1_find_18 (by decide) (fun hc => ?_) (fun hc => ?_)
    · replace h := if_t h hc
      exact ho_vret C hR h dX1_find_63
    · replace h := if_f h hc
      refine lv_iload_n C.1 C.2.1 dX1_find_21 rfl (lv_at hl 3 rfl) ?_
      refine lv_bipush (v := (64 : Int32)) C.1 C.2.1 dX1_find_22 (by decide) ?_
      refine lv_icmp_ge (tgt := 63) C.1 C.2.1 dX1_find_24 (by decide) (fun hc => ?_) (fun hc => ?_)
      · replace h := if_t h hc
        exact ho_vret C hR h dX1_find_63
      · replace h := if_f h hc
        refine lv_iload_n C.1 C.2.1 dX1_find_27 rfl (lv_at hl 3 rfl) ?_
        refine lv_iload_n C.1 C.2.1 dX1_find_28 rfl (lv_at hl 2 rfl) ?_
        refine lv_iconst (v := (-1 : Int32)) C.1 C.2.1 dX1_find_29 (by decide) ?_
        refine lv_ixor C.1 C.2.1 dX1_find_30 ?_
        refine lv_iand C.1 C.2.1 dX1_find_31 ?_
        refine lv_if_ne (tgt := 57) C.1 C.2.1 dX1_find_32 (by decide) (fun hc => ?_) (fun hc => ?_)
        · replace h := if_f h hc
          exact w_X1_find_57 C (f_X1_find_16 a1 k) a1 ha1 ih x2 x3 S h _ _ _ hR (lv_sub hl [0, 1, 2, 3] rfl)
        · replace h := if_t h hc
          refine lv_aload_n C.1 C.2.1 dX1_find_35 rfl (lv_at hl 0 rfl) ?_
          refine ho_getR (a' := 50) C cf1 fH_RX1_39 hR aH_70 rfl dX1_find_36 ?_
          refine lv_aload_n C.1 C.2.1 dX1_find_39 rfl (lv_at hl 1 rfl) ?_
          refine lv_iload_n C.1 C.2.1 dX1_find_40 rfl (lv_at hl 3 rfl) ?_
          obtain ⟨r1, S1, h1, h⟩ := ob2_ok h
          refine hr_Vi (v := r1) (S' := S1) (As := [.ref (E.2.1 a1), .int x3]) (rest := []) C cf8 (c_X8_takeAll l E a1 x3 ha1 _ _ h1) yv_X8_takeAll lk_RX1_68 rfl aH_50 rfl rfl hl.1 (Nat.le_of_ble_eq_true rfl) (by decide) (by decide) hR (ho_A hR) dX1_find_41 (fun H locs hR => ?_)
          refine lv_pop C.1 C.2.1 dX1_find_44 rfl ?_
          refine lv_aload_n C.1 C.2.1 dX1_find_45 rfl (lv_at hl 0 rfl) ?_
          obtain ⟨r2, S2, h2, h⟩ := ob2_ok h
          refine hr_Vi (v := r2) (S' := S2) (As := []) (rest := []) C cf1 (c_X1_isSo l E _ _ h2) yv_X1_isSo lk_RX1_72 rfl aH_70 rfl rfl hl.1 (Nat.le_of_ble_eq_true rfl) (by decide) (by decide) hR (ho_A hR) dX1_find_46 (fun H locs hR => ?_)
          refine lv_if_eq (tgt := 57) C.1 C.2.1 dX1_find_49 (by decide) (fun hc => ?_) (fun hc => ?_)
          · replace h := if_t h hc
            exact w_X1_find_57 C (f_X1_find_16 a1 k) a1 ha1 ih x2 x3 S2 h _ _ _ hR (lv_sub hl [0, 1, 2, 3] rfl)
          · replace h := if_f h hc
            refine lv_aload_n C.1 C.2.1 dX1_find_52 rfl (lv_at hl 0 rfl) ?_
            refine lv_iload_n C.1 C.2.1 dX1_find_53 rfl (lv_at hl 3 rfl) ?_
            obtain ⟨S3, h3, h⟩ := ob_ok h
            refine hr_Vv (S' := S3) (As := [.int x3]) (rest := []) C cf1 (c_X1_addFitting l E x3 _ _ h3) yv_X1_addFitting lk_RX1_76 rfl aH_70 rfl rfl hl.1 (Nat.le_of_ble_eq_true rfl) (by decide) (by decide) hR (ho_A hR) dX1_find_54 (fun H locs hR => ?_)
            exact w_X1_find_57 C (f_X1_find_16 a1 k) a1 ha1 ih x2 x3 S3 h _ _ _ hR (lv_sub hl [0, 1, 2, 3] rfl)
def f_X1_find (a1 : Nat) (S : Hp) : Option Hp :=
  ob2 (f_X8_showable a1 S) (fun r1 S1 => le1 (ho_sI S1 70 1 (0 : Int32)) (fun S2 => f_X1_find_16 a1 5000 r1 (0 : Int32) S2))
set_option maxHeartbeats 4000000 in
set_option maxRecDepth 100000 in
theorem c_X1_find (l : Launch) (E : Ev) (a1 : Nat) (ha1 : a1 ∈ yH.1 ∧ yH.2.1 a1 = (1, 9)) (S : Hp) (r : Hp) (h : f_X1_find a1 S = some r) : ho_M l yH E yX1_find cX1_find 4 none 2 [.ref (E.2.1 70), .ref (E.2.1 a1)] S (none, r) := by
  refine ho_in (by decide) (Nat.le_of_ble_eq_true rfl) ?_
  intro p e s m args below meth c C hR ls hl
  have C : ho_I p s m args meth c RX1 cX1_find 4 none := C
  have hl : lv_has ls 4 [(0, .ref (E.2.1 70)), (1, .ref (E.2.1 a1))] := hl
  unfold f_X1_find at h
  refine lv_aload_n C.1 C.2.1 dX1_find_0 rfl (lv_at hl 0 rfl) ?_
  refine ho_getR (a' := 50) C cf1 fH_RX1_39 hR aH_70 rfl dX1_find_1 ?_
  refine lv_aload_n C.1 C.2.1 dX1_find_4 rfl (lv_at hl 1 rfl) ?_
  obtain ⟨r1, S1, h1, h⟩ := ob2_ok h
  refine hr_Vi (v := r1) (S' := S1) (As := [.ref (E.2.1 a1)]) (rest := []) C cf8 (c_X8_showable l E a1 ha1 _ _ h1) yv_X8_showable lk_RX1_64 rfl aH_50 rfl rfl hl.1 (Nat.le_of_ble_eq_true rfl) (by decide) (by decide) hR (ho_A hR) dX1_find_5 (fun H locs hR => ?_)
  refine lv_istore_n (lv' := [(2, .int r1), (0, .ref (E.2.1 70)), (1, .ref (E.2.1 a1))]) C.1 C.2.1 dX1_find_8 rfl hl (by decide) rfl (fun ls hl => ?_)
  refine lv_aload_n C.1 C.2.1 dX1_find_9 rfl (lv_at hl 1 rfl) ?_
  refine lv_iconst (v := (0 : Int32)) C.1 C.2.1 dX1_find_10 (by decide) ?_
  obtain ⟨S2, e2, h⟩ := le1_ok h
  refine hr_putI C cf1 fH_RX1_15 hR aH_70 e2 dX1_find_11 (fun H locs hR => ?_)
  refine lv_iconst (v := (0 : Int32)) C.1 C.2.1 dX1_find_14 (by decide) ?_
  refine lv_istore_n (lv' := [(3, .int (0 : Int32)), (2, .int r1), (0, .ref (E.2.1 70)), (1, .ref (E.2.1 a1))]) C.1 C.2.1 dX1_find_15 rfl hl (by decide) rfl (fun ls hl => ?_)
  exact w_X1_find_16 C a1 ha1 5000 r1 (0 : Int32) S2 h _ _ _ hR (lv_sub hl [2, 3, 1, 0] rfl)
theorem dX1_inAll_0 : decode cX1_inAll 0 = .ok (.aload_n 0, 1) := by decide +kernel
theorem dX1_inAll_1 : decode cX1_inAll 1 = .ok (.getfield 15, 3) := by decide +kernel
theorem dX1_inAll_4 : decode cX1_inAll 4 = .ok (.ifCond .ne 7, 3) := by decide +kernel
theorem dX1_inAll_7 : decode cX1_inAll 7 = .ok (.iconst 0, 1) := by decide +kernel
theorem dX1_inAll_8 : decode cX1_inAll 8 = .ok (.goto 9, 3) := by decide +kernel
theorem dX1_inAll_11 : decode cX1_inAll 11 = .ok (.aload_n 0, 1) := by decide +kernel
theorem dX1_inAll_12 : decode cX1_inAll 12 = .ok (.getfield 31, 3) := by decide +kernel
theorem dX1_inAll_15 : decode cX1_inAll 15 = .ok (.iconst 0, 1) := by decide +kernel
theorem dX1_inAll_16 : decode cX1_inAll 16 = .ok (.iaload, 1) := by decide +kernel
theorem dX1_inAll_17 : decode cX1_inAll 17 = .ok (.istore_n 1, 1) := by decide +kernel
theorem dX1_inAll_18 : decode cX1_inAll 18 = .ok (.iconst 0, 1) := by decide +kernel
theorem dX1_inAll_19 : decode cX1_inAll 19 = .ok (.istore_n 2, 1) := by decide +kernel
theorem dX1_inAll_20 : decode cX1_inAll 20 = .ok (.iload_n 2, 1) := by decide +kernel
theorem dX1_inAll_21 : decode cX1_inAll 21 = .ok (.aload_n 0, 1) := by decide +kernel
theorem dX1_inAll_22 : decode cX1_inAll 22 = .ok (.getfield 15, 3) := by decide +kernel
theorem dX1_inAll_25 : decode cX1_inAll 25 = .ok (.if_icmp .ge 18, 3) := by decide +kernel
theorem dX1_inAll_28 : decode cX1_inAll 28 = .ok (.iload_n 1, 1) := by decide +kernel
theorem dX1_inAll_29 : decode cX1_inAll 29 = .ok (.aload_n 0, 1) := by decide +kernel
theorem dX1_inAll_30 : decode cX1_inAll 30 = .ok (.getfield 31, 3) := by decide +kernel
theorem dX1_inAll_33 : decode cX1_inAll 33 = .ok (.iload_n 2, 1) := by decide +kernel
theorem dX1_inAll_34 : decode cX1_inAll 34 = .ok (.iaload, 1) := by decide +kernel
theorem dX1_inAll_35 : decode cX1_inAll 35 = .ok (.iand, 1) := by decide +kernel
theorem dX1_inAll_36 : decode cX1_inAll 36 = .ok (.istore_n 1, 1) := by decide +kernel
theorem dX1_inAll_37 : decode cX1_inAll 37 = .ok (.iinc 2 1, 3) := by decide +kernel
theorem dX1_inAll_40 : decode cX1_inAll 40 = .ok (.goto (-20), 3) := by decide +kernel
theorem dX1_inAll_43 : decode cX1_inAll 43 = .ok (.iload_n 1, 1) := by decide +kernel
theorem dX1_inAll_44 : decode cX1_inAll 44 = .ok (.ireturn, 1) := by decide +kernel
def f_X1_inAll_20 : Nat → Int32 → Int32 → Hp → Option (Int32 × Hp)
  | 0, _, _, _ => none
  | k + 1, x1, x2, S => if (S.1 70 1) ≤ x2 then some (x1, S) else ldI S 73 64 x2 (fun v1 => le1 (x1 &&& v1) (fun v2 => le1 (x2 + (1 : Int32)) (fun v3 => f_X1_inAll_20 k v2 v3 S)))
set_option maxHeartbeats 4000000 in
set_option maxRecDepth 100000 in
theorem w_X1_inAll_20 {p : Program} {l : Launch} {e : Env} {s : State} {m : MethodId} {args : Array Value} {below : List Frame} {meth : Method} {c : Code} {E : Ev} {S0 : Hp} {r : (Int32 × Hp)} (C : ho_I p s m args meth c RX1 cX1_inAll 3 (some .int)) :
    ∀ (k : Nat) (x1 : Int32) (x2 : Int32) (S : Hp), f_X1_inAll_20 k x1 x2 S = some r → ho_G p l e s m args below meth c yH E S0 0 3 (some (.int r.1), r.2) 20 [(0, .ref (E.2.1 70)), (1, .int x1), (2, .int x2)] [] S := by
  intro k
  induction k with
  | zero =>
    intro x1 x2 S h
    exact absurd (show (none : Option (Int32 × Hp)) = some r from h) (by simp)
  | succ k ih =>
    intro x1 x2 S h H locs ls hR hl
    rw [f_X1_inAll_20] at h
    refine lv_iload_n C.1 C.2.1 dX1_inAll_20 rfl (lv_at hl 2 rfl) ?_
    refine lv_aload_n C.1 C.2.1 dX1_inAll_21 rfl (lv_at hl 0 rfl) ?_
    refine ho_getI C cf1 fH_RX1_15 hR aH_70 dX1_inAll_22 ?_
    refine lv_icmp_ge (tgt := 43) C.1 C.2.1 dX1_inAll_25 (by decide) (fun hc => ?_) (fun hc => ?_)
    · replace h := if_t h hc
      refine lv_iload_n C.1 C.2.1 dX1_inAll_43 rfl (lv_at hl 1 rfl) ?_
      exact ho_iret C hR h dX1_inAll_44
    · replace h := if_f h hc
      refine lv_iload_n C.1 C.2.1 dX1_inAll_28 rfl (lv_at hl 1 rfl) ?_
      refine lv_aload_n C.1 C.2.1 dX1_inAll_29 rfl (lv_at hl 0 rfl) ?_
      refine ho_getR (a' := 73) C cf1 fH_RX1_31 hR aH_70 rfl dX1_inAll_30 ?_
      refine lv_iload_n C.1 C.2.1 dX1_inAll_33 rfl (lv_at hl 2 rfl) ?_
      obtain ⟨v1, e1, hi1, h⟩ := ldI_ok h
      refine hr_ild C hR aH_73 hi1 e1 dX1_inAll_34 ?_
      refine lv_iand C.1 C.2.1 dX1_inAll_35 ?_
      refine lv_topi (fun v2 e2 => ?_)
      replace h := le1_at e2 h
      refine lv_istore_n (lv' := [(1, .int v2), (0, .ref (E.2.1 70)), (2, .int x2)]) C.1 C.2.1 dX1_inAll_36 rfl hl (by decide) rfl (fun ls hl => ?_)
      obtain ⟨v3, e3, h⟩ := le1_ok h
      refine lv_iinc (v := v3) (lv' := [(2, .int v3), (1, .int v2), (0, .ref (E.2.1 70))]) C.1 C.2.1 dX1_inAll_37 hl (k := 2) rfl (by rw [e3]; rfl) (by decide) rfl (fun ls hl => ?_)
      refine lv_goto (tgt := 20) C.1 C.2.1 dX1_inAll_40 (by decide) ?_
      exact ih v2 v3 S h _ _ _ hR (lv_sub hl [2, 1, 0] rfl)
def f_X1_inAll_17 (z0 : Int32) (S : Hp) : Option (Int32 × Hp) :=
  f_X1_inAll_20 5000 z0 (0 : Int32) S
set_option maxHeartbeats 4000000 in
set_option maxRecDepth 100000 in
theorem w_X1_inAll_17 {p : Program} {l : Launch} {e : Env} {s : State} {m : MethodId} {args : Array Value} {below : List Frame} {meth : Method} {c : Code} {E : Ev} {S0 : Hp} {r : (Int32 × Hp)} (C : ho_I p s m args meth c RX1 cX1_inAll 3 (some .int)) :
    ∀ (z0 : Int32) (S : Hp), f_X1_inAll_17 z0 S = some r → ho_G p l e s m args below meth c yH E S0 0 3 (some (.int r.1), r.2) 17 [(0, .ref (E.2.1 70))] [.int z0] S := by
  intro z0 S h H locs ls hR hl
  unfold f_X1_inAll_17 at h
  refine lv_istore_n (lv' := [(1, .int z0), (0, .ref (E.2.1 70))]) C.1 C.2.1 dX1_inAll_17 rfl hl (by decide) rfl (fun ls hl => ?_)
  refine lv_iconst (v := (0 : Int32)) C.1 C.2.1 dX1_inAll_18 (by decide) ?_
  refine lv_istore_n (lv' := [(2, .int (0 : Int32)), (1, .int z0), (0, .ref (E.2.1 70))]) C.1 C.2.1 dX1_inAll_19 rfl hl (by decide) rfl (fun ls hl => ?_)
  exact w_X1_inAll_20 C 5000 z0 (0 : Int32) S h _ _ _ hR (lv_sub hl [2, 1, 0] rfl)
def f_X1_inAll (S : Hp) : Option (Int32 × Hp) :=
  if (S.1 70 1) = 0 then f_X1_inAll_17 (0 : Int32) S else ldI S 73 64 (0 : Int32) (fun v1 => f_X1_inAll_17 v1 S)
set_option maxHeartbeats 4000000 in
set_option maxRecDepth 100000 in
theorem c_X1_inAll (l : Launch) (E : Ev) (S : Hp) (r : (Int32 × Hp)) (h : f_X1_inAll S = some r) : ho_M l yH E yX1_inAll cX1_inAll 3 (some .int) 0 [.ref (E.2.1 70)] S (some (.int r.1), r.2) := by
  refine ho_in (by decide) (Nat.le_of_ble_eq_true rfl) ?_
  intro p e s m args below meth c C hR ls hl
  have C : ho_I p s m args meth c RX1 cX1_inAll 3 (some .int) := C
  have hl : lv_has ls 3 [(0, .ref (E.2.1 70))] := hl
  unfold f_X1_inAll at h
  refine lv_aload_n C.1 C.2.1 dX1_inAll_0 rfl (lv_at hl 0 rfl) ?_
  refine ho_getI C cf1 fH_RX1_15 hR aH_70 dX1_inAll_1 ?_
  refine lv_if_ne (tgt := 11) C.1 C.2.1 dX1_inAll_4 (by decide) (fun hc => ?_) (fun hc => ?_)
  · replace h := if_f h hc
    refine lv_aload_n C.1 C.2.1 dX1_inAll_11 rfl (lv_at hl 0 rfl) ?_
    refine ho_getR (a' := 73) C cf1 fH_RX1_31 hR aH_70 rfl dX1_inAll_12 ?_
    refine lv_iconst (v := (0 : Int32)) C.1 C.2.1 dX1_inAll_15 (by decide) ?_
    obtain ⟨v1, e1, hi1, h⟩ := ldI_ok h
    refine hr_ild C hR aH_73 hi1 e1 dX1_inAll_16 ?_
    exact w_X1_inAll_17 C v1 S h _ _ _ hR (lv_sub hl [0] rfl)
  · replace h := if_t h hc
    refine lv_iconst (v := (0 : Int32)) C.1 C.2.1 dX1_inAll_7 (by decide) ?_
    refine lv_goto (tgt := 17) C.1 C.2.1 dX1_inAll_8 (by decide) ?_
    exact w_X1_inAll_17 C (0 : Int32) S h _ _ _ hR (lv_sub hl [0] rfl)
theorem dX1_inSome_0 : decode cX1_inSome 0 = .ok (.iconst 0, 1) := by decide +kernel
theorem dX1_inSome_1 : decode cX1_inSome 1 = .ok (.istore_n 1, 1) := by decide +kernel
theorem dX1_inSome_2 : decode cX1_inSome 2 = .ok (.iconst 0, 1) := by decide +kernel
theorem dX1_inSome_3 : decode cX1_inSome 3 = .ok (.istore_n 2, 1) := by decide +kernel
theorem dX1_inSome_4 : decode cX1_inSome 4 = .ok (.iload_n 2, 1) := by decide +kernel
theorem dX1_inSome_5 : decode cX1_inSome 5 = .ok (.aload_n 0, 1) := by decide +kernel
theorem dX1_inSome_6 : decode cX1_inSome 6 = .ok (.getfield 15, 3) := by decide +kernel
theorem dX1_inSome_9 : decode cX1_inSome 9 = .ok (.if_icmp .ge 18, 3) := by decide +kernel
theorem dX1_inSome_12 : decode cX1_inSome 12 = .ok (.iload_n 1, 1) := by decide +kernel
theorem dX1_inSome_13 : decode cX1_inSome 13 = .ok (.aload_n 0, 1) := by decide +kernel
theorem dX1_inSome_14 : decode cX1_inSome 14 = .ok (.getfield 31, 3) := by decide +kernel
theorem dX1_inSome_17 : decode cX1_inSome 17 = .ok (.iload_n 2, 1) := by decide +kernel
theorem dX1_inSome_18 : decode cX1_inSome 18 = .ok (.iaload, 1) := by decide +kernel
theorem dX1_inSome_19 : decode cX1_inSome 19 = .ok (.ior, 1) := by decide +kernel
theorem dX1_inSome_20 : decode cX1_inSome 20 = .ok (.istore_n 1, 1) := by decide +kernel
theorem dX1_inSome_21 : decode cX1_inSome 21 = .ok (.iinc 2 1, 3) := by decide +kernel
theorem dX1_inSome_24 : decode cX1_inSome 24 = .ok (.goto (-20), 3) := by decide +kernel
theorem dX1_inSome_27 : decode cX1_inSome 27 = .ok (.iload_n 1, 1) := by decide +kernel
theorem dX1_inSome_28 : decode cX1_inSome 28 = .ok (.ireturn, 1) := by decide +kernel
def f_X1_inSome_4 : Nat → Int32 → Int32 → Hp → Option (Int32 × Hp)
  | 0, _, _, _ => none
  | k + 1, x1, x2, S => if (S.1 70 1) ≤ x2 then some (x1, S) else ldI S 73 64 x2 (fun v1 => le1 (x1 ||| v1) (fun v2 => le1 (x2 + (1 : Int32)) (fun v3 => f_X1_inSome_4 k v2 v3 S)))
set_option maxHeartbeats 4000000 in
set_option maxRecDepth 100000 in
theorem w_X1_inSome_4 {p : Program} {l : Launch} {e : Env} {s : State} {m : MethodId} {args : Array Value} {below : List Frame} {meth : Method} {c : Code} {E : Ev} {S0 : Hp} {r : (Int32 × Hp)} (C : ho_I p s m args meth c RX1 cX1_inSome 3 (some .int)) :
    ∀ (k : Nat) (x1 : Int32) (x2 : Int32) (S : Hp), f_X1_inSome_4 k x1 x2 S = some r → ho_G p l e s m args below meth c yH E S0 0 3 (some (.int r.1), r.2) 4 [(0, .ref (E.2.1 70)), (1, .int x1), (2, .int x2)] [] S := by
  intro k
  induction k with
  | zero =>
    intro x1 x2 S h
    exact absurd (show (none : Option (Int32 × Hp)) = some r from h) (by simp)
  | succ k ih =>
    intro x1 x2 S h H locs ls hR hl
    rw [f_X1_inSome_4] at h
    refine lv_iload_n C.1 C.2.1 dX1_inSome_4 rfl (lv_at hl 2 rfl) ?_
    refine lv_aload_n C.1 C.2.1 dX1_inSome_5 rfl (lv_at hl 0 rfl) ?_
    refine ho_getI C cf1 fH_RX1_15 hR aH_70 dX1_inSome_6 ?_
    refine lv_icmp_ge (tgt := 27) C.1 C.2.1 dX1_inSome_9 (by decide) (fun hc => ?_) (fun hc => ?_)
    · replace h := if_t h hc
      refine lv_iload_n C.1 C.2.1 dX1_inSome_27 rfl (lv_at hl 1 rfl) ?_
      exact ho_iret C hR h dX1_inSome_28
    · replace h := if_f h hc
      refine lv_iload_n C.1 C.2.1 dX1_inSome_12 rfl (lv_at hl 1 rfl) ?_
      refine lv_aload_n C.1 C.2.1 dX1_inSome_13 rfl (lv_at hl 0 rfl) ?_
      refine ho_getR (a' := 73) C cf1 fH_RX1_31 hR aH_70 rfl dX1_inSome_14 ?_
      refine lv_iload_n C.1 C.2.1 dX1_inSome_17 rfl (lv_at hl 2 rfl) ?_
      obtain ⟨v1, e1, hi1, h⟩ := ldI_ok h
      refine hr_ild C hR aH_73 hi1 e1 dX1_inSome_18 ?_
      refine lv_ior C.1 C.2.1 dX1_inSome_19 ?_
      refine lv_topi (fun v2 e2 => ?_)
      replace h := le1_at e2 h
      refine lv_istore_n (lv' := [(1, .int v2), (0, .ref (E.2.1 70)), (2, .int x2)]) C.1 C.2.1 dX1_inSome_20 rfl hl (by decide) rfl (fun ls hl => ?_)
      obtain ⟨v3, e3, h⟩ := le1_ok h
      refine lv_iinc (v := v3) (lv' := [(2, .int v3), (1, .int v2), (0, .ref (E.2.1 70))]) C.1 C.2.1 dX1_inSome_21 hl (k := 2) rfl (by rw [e3]; rfl) (by decide) rfl (fun ls hl => ?_)
      refine lv_goto (tgt := 4) C.1 C.2.1 dX1_inSome_24 (by decide) ?_
      exact ih v2 v3 S h _ _ _ hR (lv_sub hl [2, 1, 0] rfl)
def f_X1_inSome (S : Hp) : Option (Int32 × Hp) :=
  f_X1_inSome_4 5000 (0 : Int32) (0 : Int32) S
set_option maxHeartbeats 4000000 in
set_option maxRecDepth 100000 in
theorem c_X1_inSome (l : Launch) (E : Ev) (S : Hp) (r : (Int32 × Hp)) (h : f_X1_inSome S = some r) : ho_M l yH E yX1_inSome cX1_inSome 3 (some .int) 0 [.ref (E.2.1 70)] S (some (.int r.1), r.2) := by
  refine ho_in (by decide) (Nat.le_of_ble_eq_true rfl) ?_
  intro p e s m args below meth c C hR ls hl
  have C : ho_I p s m args meth c RX1 cX1_inSome 3 (some .int) := C
  have hl : lv_has ls 3 [(0, .ref (E.2.1 70))] := hl
  unfold f_X1_inSome at h
  refine lv_iconst (v := (0 : Int32)) C.1 C.2.1 dX1_inSome_0 (by decide) ?_
  refine lv_istore_n (lv' := [(1, .int (0 : Int32)), (0, .ref (E.2.1 70))]) C.1 C.2.1 dX1_inSome_1 rfl hl (by decide) rfl (fun ls hl => ?_)
  refine lv_iconst (v := (0 : Int32)) C.1 C.2.1 dX1_inSome_2 (by decide) ?_
  refine lv_istore_n (lv' := [(2, .int (0 : Int32)), (1, .int (0 : Int32)), (0, .ref (E.2.1 70))]) C.1 C.2.1 dX1_inSome_3 rfl hl (by decide) rfl (fun ls hl => ?_)
  exact w_X1_inSome_4 C 5000 (0 : Int32) (0 : Int32) S h _ _ _ hR (lv_sub hl [2, 1, 0] rfl)
theorem dX1_mostLeft_0 : decode cX1_mostLeft 0 = .ok (.iconst 0, 1) := by decide +kernel
theorem dX1_mostLeft_1 : decode cX1_mostLeft 1 = .ok (.istore_n 2, 1) := by decide +kernel
theorem dX1_mostLeft_2 : decode cX1_mostLeft 2 = .ok (.iconst 0, 1) := by decide +kernel
theorem dX1_mostLeft_3 : decode cX1_mostLeft 3 = .ok (.istore_n 3, 1) := by decide +kernel
theorem dX1_mostLeft_4 : decode cX1_mostLeft 4 = .ok (.iload_n 3, 1) := by decide +kernel
theorem dX1_mostLeft_5 : decode cX1_mostLeft 5 = .ok (.aload_n 0, 1) := by decide +kernel
theorem dX1_mostLeft_6 : decode cX1_mostLeft 6 = .ok (.getfield 15, 3) := by decide +kernel
theorem dX1_mostLeft_9 : decode cX1_mostLeft 9 = .ok (.if_icmp .ge 50, 3) := by decide +kernel
theorem dX1_mostLeft_12 : decode cX1_mostLeft 12 = .ok (.iconst 0, 1) := by decide +kernel
theorem dX1_mostLeft_13 : decode cX1_mostLeft 13 = .ok (.istore 4, 2) := by decide +kernel
theorem dX1_mostLeft_15 : decode cX1_mostLeft 15 = .ok (.iconst 0, 1) := by decide +kernel
theorem dX1_mostLeft_16 : decode cX1_mostLeft 16 = .ok (.istore 5, 2) := by decide +kernel
theorem dX1_mostLeft_18 : decode cX1_mostLeft 18 = .ok (.iload 5, 2) := by decide +kernel
theorem dX1_mostLeft_20 : decode cX1_mostLeft 20 = .ok (.aload_n 0, 1) := by decide +kernel
theorem dX1_mostLeft_21 : decode cX1_mostLeft 21 = .ok (.getfield 15, 3) := by decide +kernel
theorem dX1_mostLeft_24 : decode cX1_mostLeft 24 = .ok (.if_icmp .ge 22, 3) := by decide +kernel
theorem dX1_mostLeft_27 : decode cX1_mostLeft 27 = .ok (.aload_n 1, 1) := by decide +kernel
theorem dX1_mostLeft_28 : decode cX1_mostLeft 28 = .ok (.iload_n 3, 1) := by decide +kernel
theorem dX1_mostLeft_29 : decode cX1_mostLeft 29 = .ok (.iaload, 1) := by decide +kernel
theorem dX1_mostLeft_30 : decode cX1_mostLeft 30 = .ok (.aload_n 1, 1) := by decide +kernel
theorem dX1_mostLeft_31 : decode cX1_mostLeft 31 = .ok (.iload 5, 2) := by decide +kernel
theorem dX1_mostLeft_33 : decode cX1_mostLeft 33 = .ok (.iaload, 1) := by decide +kernel
theorem dX1_mostLeft_34 : decode cX1_mostLeft 34 = .ok (.if_icmp .ne 6, 3) := by decide +kernel
theorem dX1_mostLeft_37 : decode cX1_mostLeft 37 = .ok (.iinc 4 1, 3) := by decide +kernel
theorem dX1_mostLeft_40 : decode cX1_mostLeft 40 = .ok (.iinc 5 1, 3) := by decide +kernel
theorem dX1_mostLeft_43 : decode cX1_mostLeft 43 = .ok (.goto (-25), 3) := by decide +kernel
theorem dX1_mostLeft_46 : decode cX1_mostLeft 46 = .ok (.iload_n 2, 1) := by decide +kernel
theorem dX1_mostLeft_47 : decode cX1_mostLeft 47 = .ok (.iload 4, 2) := by decide +kernel
theorem dX1_mostLeft_49 : decode cX1_mostLeft 49 = .ok (.invokestatic 90, 3) := by decide +kernel
theorem dX1_mostLeft_52 : decode cX1_mostLeft 52 = .ok (.istore_n 2, 1) := by decide +kernel
theorem dX1_mostLeft_53 : decode cX1_mostLeft 53 = .ok (.iinc 3 1, 3) := by decide +kernel
theorem dX1_mostLeft_56 : decode cX1_mostLeft 56 = .ok (.goto (-52), 3) := by decide +kernel
theorem dX1_mostLeft_59 : decode cX1_mostLeft 59 = .ok (.iload_n 2, 1) := by decide +kernel
theorem dX1_mostLeft_60 : decode cX1_mostLeft 60 = .ok (.ireturn, 1) := by decide +kernel
def f_X1_mostLeft_40 (K4 : Int32 → Int32 → Hp → Option (Int32 × Hp)) (K18 : Int32 → Int32 → Int32 → Int32 → Hp → Option (Int32 × Hp)) (w1 n1 : Nat) (x2 : Int32) (x3 : Int32) (x4 : Int32) (x5 : Int32) (S : Hp) : Option (Int32 × Hp) :=
  le1 (x5 + (1 : Int32)) (fun v1 => K18 x2 x3 x4 v1 S)
set_option maxHeartbeats 4000000 in
set_option maxRecDepth 100000 in
theorem w_X1_mostLeft_40 {p : Program} {l : Launch} {e : Env} {s : State} {m : MethodId} {args : Array Value} {below : List Frame} {meth : Method} {c : Code} {E : Ev} {S0 : Hp} {r : (Int32 × Hp)} (C : ho_I p s m args meth c RX1 cX1_mostLeft 6 (some .int)) (K4 : Int32 → Int32 → Hp → Option (Int32 × Hp)) (K18 : Int32 → Int32 → Int32 → Int32 → Hp → Option (Int32 × Hp)) (w1 n1 : Nat) (hw1 : w1 ∈ yH.1 ∧ yH.2.1 w1 = (4, n1)) (hK4 : ∀ (y2 : Int32) (y3 : Int32) (S : Hp), K4 y2 y3 S = some r → ho_G p l e s m args below meth c yH E S0 1 6 (some (.int r.1), r.2) 4 [(0, .ref (E.2.1 70)), (1, .ref (E.2.1 w1)), (2, .int y2), (3, .int y3)] [] S) (hK18 : ∀ (y2 : Int32) (y3 : Int32) (y4 : Int32) (y5 : Int32) (S : Hp), K18 y2 y3 y4 y5 S = some r → ho_G p l e s m args below meth c yH E S0 1 6 (some (.int r.1), r.2) 18 [(0, .ref (E.2.1 70)), (1, .ref (E.2.1 w1)), (2, .int y2), (3, .int y3), (4, .int y4), (5, .int y5)] [] S) :
    ∀ (x2 : Int32) (x3 : Int32) (x4 : Int32) (x5 : Int32) (S : Hp), f_X1_mostLeft_40 K4 K18 w1 n1 x2 x3 x4 x5 S = some r → ho_G p l e s m args below meth c yH E S0 1 6 (some (.int r.1), r.2) 40 [(0, .ref (E.2.1 70)), (1, .ref (E.2.1 w1)), (2, .int x2), (3, .int x3), (4, .int x4), (5, .int x5)] [] S := by
  intro x2 x3 x4 x5 S h H locs ls hR hl
  unfold f_X1_mostLeft_40 at h
  obtain ⟨v1, e1, h⟩ := le1_ok h
  refine lv_iinc (v := v1) (lv' := [(5, .int v1), (0, .ref (E.2.1 70)), (1, .ref (E.2.1 w1)), (2, .int x2), (3, .int x3), (4, .int x4)]) C.1 C.2.1 dX1_mostLeft_40 hl (k := 5) rfl (by rw [e1]; rfl) (by decide) rfl (fun ls hl => ?_)
  refine lv_goto (tgt := 18) C.1 C.2.1 dX1_mostLeft_43 (by decide) ?_
  exact hK18 x2 x3 x4 v1 S h _ _ _ hR (lv_sub hl [1, 2, 3, 4, 5, 0] rfl)
def f_X1_mostLeft_18 (K4 : Int32 → Int32 → Hp → Option (Int32 × Hp)) (w1 n1 : Nat) : Nat → Int32 → Int32 → Int32 → Int32 → Hp → Option (Int32 × Hp)
  | 0, _, _, _, _, _ => none
  | k + 1, x2, x3, x4, x5, S => if (S.1 70 1) ≤ x5 then ob2 (f_J9_max_7cf53 x2 x4 S) (fun r1 S1 => le1 (x3 + (1 : Int32)) (fun v2 => K4 r1 v2 S1)) else ldI S w1 n1 x3 (fun v3 => ldI S w1 n1 x5 (fun v4 => if v3 = v4 then le1 (x4 + (1 : Int32)) (fun v5 => f_X1_mostLeft_40 K4 (f_X1_mostLeft_18 K4 w1 n1 k) w1 n1 x2 x3 v5 x5 S) else f_X1_mostLeft_40 K4 (f_X1_mostLeft_18 K4 w1 n1 k) w1 n1 x2 x3 x4 x5 S))
set_option maxHeartbeats 4000000 in
set_option maxRecDepth 100000 in
theorem w_X1_mostLeft_18 {p : Program} {l : Launch} {e : Env} {s : State} {m : MethodId} {args : Array Value} {below : List Frame} {meth : Method} {c : Code} {E : Ev} {S0 : Hp} {r : (Int32 × Hp)} (C : ho_I p s m args meth c RX1 cX1_mostLeft 6 (some .int)) (K4 : Int32 → Int32 → Hp → Option (Int32 × Hp)) (w1 n1 : Nat) (hw1 : w1 ∈ yH.1 ∧ yH.2.1 w1 = (4, n1)) (hK4 : ∀ (y2 : Int32) (y3 : Int32) (S : Hp), K4 y2 y3 S = some r → ho_G p l e s m args below meth c yH E S0 1 6 (some (.int r.1), r.2) 4 [(0, .ref (E.2.1 70)), (1, .ref (E.2.1 w1)), (2, .int y2), (3, .int y3)] [] S) :
    ∀ (k : Nat) (x2 : Int32) (x3 : Int32) (x4 : Int32) (x5 : Int32) (S : Hp), f_X1_mostLeft_18 K4 w1 n1 k x2 x3 x4 x5 S = some r → ho_G p l e s m args below meth c yH E S0 1 6 (some (.int r.1), r.2) 18 [(0, .ref (E.2.1 70)), (1, .ref (E.2.1 w1)), (2, .int x2), (3, .int x3), (4, .int x4), (5, .int x5)] [] S := by
  intro k
  induction k with
  | zero =>
    intro x2 x3 x4 x5 S h
    exact absurd (show (none : Option (Int32 × Hp)) = some r from h) (by simp)
  | succ k ih =>
    intro x2 x3 x4 x5 S h H locs ls hR hl
    rw [f_X1_mostLeft_18] at h
    refine lv_iload C.1 C.2.1 dX1_mostLeft_18 (lv_at hl 5 rfl) ?_
    refine lv_aload_n C.1 C.2.1 dX1_mostLeft_20 rfl (lv_at hl 0 rfl) ?_
    refine ho_getI C cf1 fH_RX1_15 hR aH_70 dX1_mostLeft_21 ?_
    refine lv_icmp_ge (tgt := 46) C.1 C.2.1 dX1_mostLeft_24 (by decide) (fun hc => ?_) (fun hc => ?_)
    · replace h := if_t h hc
      refine lv_iload_n C.1 C.2.1 dX1_mostLeft_46 rfl (lv_at hl 2 rfl) ?_
      refine lv_iload C.1 C.2.1 dX1_mostLeft_47 (lv_at hl 4 rfl) ?_
      obtain ⟨r1, S1, h1, h⟩ := ob2_ok h
      refine hr_Si (v := r1) (S' := S1) (As := [.int x2, .int x4]) (rest := []) C (c_J9_max_7cf53 l E x2 x4 _ _ h1) ys_J9_max_7cf53 lk_RX1_90 rfl rfl hl.1 (Nat.le_of_ble_eq_true rfl) (by decide) (by decide) hR (ho_A hR) dX1_mostLeft_49 (fun H locs hR => ?_)
      refine lv_istore_n (lv' := [(2, .int r1), (0, .ref (E.2.1 70)), (1, .ref (E.2.1 w1)), (3, .int x3), (4, .int x4), (5, .int x5)]) C.1 C.2.1 dX1_mostLeft_52 rfl hl (by decide) rfl (fun ls hl => ?_)
      obtain ⟨v2, e2, h⟩ := le1_ok h
      refine lv_iinc (v := v2) (lv' := [(3, .int v2), (2, .int r1), (0, .ref (E.2.1 70)), (1, .ref (E.2.1 w1)), (4, .int x4), (5, .int x5)]) C.1 C.2.1 dX1_mostLeft_53 hl (k := 3) rfl (by rw [e2]; rfl) (by decide) rfl (fun ls hl => ?_)
      refine lv_goto (tgt := 4) C.1 C.2.1 dX1_mostLeft_56 (by decide) ?_
      exact hK4 r1 v2 S1 h _ _ _ hR (lv_sub hl [2, 3, 1, 0] rfl)
    · replace h := if_f h hc
      refine lv_aload_n C.1 C.2.1 dX1_mostLeft_27 rfl (lv_at hl 1 rfl) ?_
      refine lv_iload_n C.1 C.2.1 dX1_mostLeft_28 rfl (lv_at hl 3 rfl) ?_
      obtain ⟨v3, e3, hi3, h⟩ := ldI_ok h
      refine hr_ild C hR hw1 hi3 e3 dX1_mostLeft_29 ?_
      refine lv_aload_n C.1 C.2.1 dX1_mostLeft_30 rfl (lv_at hl 1 rfl) ?_
      refine lv_iload C.1 C.2.1 dX1_mostLeft_31 (lv_at hl 5 rfl) ?_
      obtain ⟨v4, e4, hi4, h⟩ := ldI_ok h
      refine hr_ild C hR hw1 hi4 e4 dX1_mostLeft_33 ?_
      refine lv_icmp_ne (tgt := 40) C.1 C.2.1 dX1_mostLeft_34 (by decide) (fun hc => ?_) (fun hc => ?_)
      · replace h := if_f h hc
        exact w_X1_mostLeft_40 C K4 (f_X1_mostLeft_18 K4 w1 n1 k) w1 n1 hw1 hK4 ih x2 x3 x4 x5 S h _ _ _ hR (lv_sub hl [0, 1, 2, 3, 4, 5] rfl)
      · replace h := if_t h hc
        obtain ⟨v5, e5, h⟩ := le1_ok h
        refine lv_iinc (v := v5) (lv' := [(4, .int v5), (0, .ref (E.2.1 70)), (1, .ref (E.2.1 w1)), (2, .int x2), (3, .int x3), (5, .int x5)]) C.1 C.2.1 dX1_mostLeft_37 hl (k := 4) rfl (by rw [e5]; rfl) (by decide) rfl (fun ls hl => ?_)
        exact w_X1_mostLeft_40 C K4 (f_X1_mostLeft_18 K4 w1 n1 k) w1 n1 hw1 hK4 ih x2 x3 v5 x5 S h _ _ _ hR (lv_sub hl [1, 2, 3, 4, 0, 5] rfl)
def f_X1_mostLeft_4 (w1 n1 : Nat) : Nat → Int32 → Int32 → Hp → Option (Int32 × Hp)
  | 0, _, _, _ => none
  | k + 1, x2, x3, S => if (S.1 70 1) ≤ x3 then some (x2, S) else f_X1_mostLeft_18 (f_X1_mostLeft_4 w1 n1 k) w1 n1 5000 x2 x3 (0 : Int32) (0 : Int32) S
set_option maxHeartbeats 4000000 in
set_option maxRecDepth 100000 in
theorem w_X1_mostLeft_4 {p : Program} {l : Launch} {e : Env} {s : State} {m : MethodId} {args : Array Value} {below : List Frame} {meth : Method} {c : Code} {E : Ev} {S0 : Hp} {r : (Int32 × Hp)} (C : ho_I p s m args meth c RX1 cX1_mostLeft 6 (some .int)) (w1 n1 : Nat) (hw1 : w1 ∈ yH.1 ∧ yH.2.1 w1 = (4, n1)) :
    ∀ (k : Nat) (x2 : Int32) (x3 : Int32) (S : Hp), f_X1_mostLeft_4 w1 n1 k x2 x3 S = some r → ho_G p l e s m args below meth c yH E S0 1 6 (some (.int r.1), r.2) 4 [(0, .ref (E.2.1 70)), (1, .ref (E.2.1 w1)), (2, .int x2), (3, .int x3)] [] S := by
  intro k
  induction k with
  | zero =>
    intro x2 x3 S h
    exact absurd (show (none : Option (Int32 × Hp)) = some r from h) (by simp)
  | succ k ih =>
    intro x2 x3 S h H locs ls hR hl
    rw [f_X1_mostLeft_4] at h
    refine lv_iload_n C.1 C.2.1 dX1_mostLeft_4 rfl (lv_at hl 3 rfl) ?_
    refine lv_aload_n C.1 C.2.1 dX1_mostLeft_5 rfl (lv_at hl 0 rfl) ?_
    refine ho_getI C cf1 fH_RX1_15 hR aH_70 dX1_mostLeft_6 ?_
    refine lv_icmp_ge (tgt := 59) C.1 C.2.1 dX1_mostLeft_9 (by decide) (fun hc => ?_) (fun hc => ?_)
    · replace h := if_t h hc
      refine lv_iload_n C.1 C.2.1 dX1_mostLeft_59 rfl (lv_at hl 2 rfl) ?_
      exact ho_iret C hR h dX1_mostLeft_60
    · replace h := if_f h hc
      refine lv_iconst (v := (0 : Int32)) C.1 C.2.1 dX1_mostLeft_12 (by decide) ?_
      refine lv_istore (lv' := [(4, .int (0 : Int32)), (0, .ref (E.2.1 70)), (1, .ref (E.2.1 w1)), (2, .int x2), (3, .int x3)]) C.1 C.2.1 dX1_mostLeft_13 hl (by decide) rfl (fun ls hl => ?_)
      refine lv_iconst (v := (0 : Int32)) C.1 C.2.1 dX1_mostLeft_15 (by decide) ?_
      refine lv_istore (lv' := [(5, .int (0 : Int32)), (4, .int (0 : Int32)), (0, .ref (E.2.1 70)), (1, .ref (E.2.1 w1)), (2, .int x2), (3, .int x3)]) C.1 C.2.1 dX1_mostLeft_16 hl (by decide) rfl (fun ls hl => ?_)
      exact w_X1_mostLeft_18 C (f_X1_mostLeft_4 w1 n1 k) w1 n1 hw1 ih 5000 x2 x3 (0 : Int32) (0 : Int32) S h _ _ _ hR (lv_sub hl [2, 3, 4, 5, 1, 0] rfl)
def f_X1_mostLeft (w1 : Nat) (n1 : Nat) (S : Hp) : Option (Int32 × Hp) :=
  f_X1_mostLeft_4 w1 n1 5000 (0 : Int32) (0 : Int32) S
set_option maxHeartbeats 4000000 in
set_option maxRecDepth 100000 in
theorem c_X1_mostLeft (l : Launch) (E : Ev) (w1 : Nat) (n1 : Nat) (hw1 : w1 ∈ yH.1 ∧ yH.2.1 w1 = (4, n1)) (S : Hp) (r : (Int32 × Hp)) (h : f_X1_mostLeft w1 n1 S = some r) : ho_M l yH E yX1_mostLeft cX1_mostLeft 6 (some .int) 1 [.ref (E.2.1 70), .ref (E.2.1 w1)] S (some (.int r.1), r.2) := by
  refine ho_in (by decide) (Nat.le_of_ble_eq_true rfl) ?_
  intro p e s m args below meth c C hR ls hl
  have C : ho_I p s m args meth c RX1 cX1_mostLeft 6 (some .int) := C
  have hl : lv_has ls 6 [(0, .ref (E.2.1 70)), (1, .ref (E.2.1 w1))] := hl
  unfold f_X1_mostLeft at h
  refine lv_iconst (v := (0 : Int32)) C.1 C.2.1 dX1_mostLeft_0 (by decide) ?_
  refine lv_istore_n (lv' := [(2, .int (0 : Int32)), (0, .ref (E.2.1 70)), (1, .ref (E.2.1 w1))]) C.1 C.2.1 dX1_mostLeft_1 rfl hl (by decide) rfl (fun ls hl => ?_)
  refine lv_iconst (v := (0 : Int32)) C.1 C.2.1 dX1_mostLeft_2 (by decide) ?_
  refine lv_istore_n (lv' := [(3, .int (0 : Int32)), (2, .int (0 : Int32)), (0, .ref (E.2.1 70)), (1, .ref (E.2.1 w1))]) C.1 C.2.1 dX1_mostLeft_3 rfl hl (by decide) rfl (fun ls hl => ?_)
  exact w_X1_mostLeft_4 C w1 n1 hw1 5000 (0 : Int32) (0 : Int32) S h _ _ _ hR (lv_sub hl [2, 3, 1, 0] rfl)
theorem dX1_choose_0 : decode cX1_choose 0 = .ok (.aload_n 0, 1) := by decide +kernel
theorem dX1_choose_1 : decode cX1_choose 1 = .ok (.iconst (-1), 1) := by decide +kernel
theorem dX1_choose_2 : decode cX1_choose 2 = .ok (.putfield 18, 3) := by decide +kernel
theorem dX1_choose_5 : decode cX1_choose 5 = .ok (.aload_n 0, 1) := by decide +kernel
theorem dX1_choose_6 : decode cX1_choose 6 = .ok (.bipush 65, 2) := by decide +kernel
theorem dX1_choose_8 : decode cX1_choose 8 = .ok (.putfield 21, 3) := by decide +kernel
theorem dX1_choose_11 : decode cX1_choose 11 = .ok (.iconst 0, 1) := by decide +kernel
theorem dX1_choose_12 : decode cX1_choose 12 = .ok (.istore_n 1, 1) := by decide +kernel
theorem dX1_choose_13 : decode cX1_choose 13 = .ok (.iload_n 1, 1) := by decide +kernel
theorem dX1_choose_14 : decode cX1_choose 14 = .ok (.aload_n 0, 1) := by decide +kernel
theorem dX1_choose_15 : decode cX1_choose 15 = .ok (.getfield 39, 3) := by decide +kernel
theorem dX1_choose_18 : decode cX1_choose 18 = .ok (.getfield 48, 3) := by decide +kernel
theorem dX1_choose_21 : decode cX1_choose 21 = .ok (.getfield 80, 3) := by decide +kernel
theorem dX1_choose_24 : decode cX1_choose 24 = .ok (.iconst 0, 1) := by decide +kernel
theorem dX1_choose_25 : decode cX1_choose 25 = .ok (.iaload, 1) := by decide +kernel
theorem dX1_choose_26 : decode cX1_choose 26 = .ok (.if_icmp .ge 38, 3) := by decide +kernel
theorem dX1_choose_29 : decode cX1_choose 29 = .ok (.aload_n 0, 1) := by decide +kernel
theorem dX1_choose_30 : decode cX1_choose 30 = .ok (.aload_n 0, 1) := by decide +kernel
theorem dX1_choose_31 : decode cX1_choose 31 = .ok (.getfield 36, 3) := by decide +kernel
theorem dX1_choose_34 : decode cX1_choose 34 = .ok (.iload_n 1, 1) := by decide +kernel
theorem dX1_choose_35 : decode cX1_choose 35 = .ok (.aaload, 1) := by decide +kernel
theorem dX1_choose_36 : decode cX1_choose 36 = .ok (.invokevirtual 83, 3) := by decide +kernel
theorem dX1_choose_39 : decode cX1_choose 39 = .ok (.istore_n 2, 1) := by decide +kernel
theorem dX1_choose_40 : decode cX1_choose 40 = .ok (.iload_n 2, 1) := by decide +kernel
theorem dX1_choose_41 : decode cX1_choose 41 = .ok (.aload_n 0, 1) := by decide +kernel
theorem dX1_choose_42 : decode cX1_choose 42 = .ok (.getfield 21, 3) := by decide +kernel
theorem dX1_choose_45 : decode cX1_choose 45 = .ok (.if_icmp .ge 13, 3) := by decide +kernel
theorem dX1_choose_48 : decode cX1_choose 48 = .ok (.aload_n 0, 1) := by decide +kernel
theorem dX1_choose_49 : decode cX1_choose 49 = .ok (.iload_n 1, 1) := by decide +kernel
theorem dX1_choose_50 : decode cX1_choose 50 = .ok (.putfield 18, 3) := by decide +kernel
theorem dX1_choose_53 : decode cX1_choose 53 = .ok (.aload_n 0, 1) := by decide +kernel
theorem dX1_choose_54 : decode cX1_choose 54 = .ok (.iload_n 2, 1) := by decide +kernel
theorem dX1_choose_55 : decode cX1_choose 55 = .ok (.putfield 21, 3) := by decide +kernel
theorem dX1_choose_58 : decode cX1_choose 58 = .ok (.iinc 1 1, 3) := by decide +kernel
theorem dX1_choose_61 : decode cX1_choose 61 = .ok (.goto (-48), 3) := by decide +kernel
theorem dX1_choose_64 : decode cX1_choose 64 = .ok (.return_, 1) := by decide +kernel
def f_X1_choose_58 (K13 : Int32 → Hp → Option Hp) (x1 : Int32) (S : Hp) : Option Hp :=
  le1 (x1 + (1 : Int32)) (fun v1 => K13 v1 S)
set_option maxHeartbeats 4000000 in
set_option maxRecDepth 100000 in
theorem w_X1_choose_58 {p : Program} {l : Launch} {e : Env} {s : State} {m : MethodId} {args : Array Value} {below : List Frame} {meth : Method} {c : Code} {E : Ev} {S0 : Hp} {r : Hp} (C : ho_I p s m args meth c RX1 cX1_choose 3 none) (K13 : Int32 → Hp → Option Hp) (hK13 : ∀ (y1 : Int32) (S : Hp), K13 y1 S = some r → ho_G p l e s m args below meth c yH E S0 2 3 (none, r) 13 [(0, .ref (E.2.1 70)), (1, .int y1)] [] S) :
    ∀ (x1 : Int32) (S : Hp), f_X1_choose_58 K13 x1 S = some r → ho_G p l e s m args below meth c yH E S0 2 3 (none, r) 58 [(0, .ref (E.2.1 70)), (1, .int x1)] [] S := by
  intro x1 S h H locs ls hR hl
  unfold f_X1_choose_58 at h
  obtain ⟨v1, e1, h⟩ := le1_ok h
  refine lv_iinc (v := v1) (lv' := [(1, .int v1), (0, .ref (E.2.1 70))]) C.1 C.2.1 dX1_choose_58 hl (k := 1) rfl (by rw [e1]; rfl) (by decide) rfl (fun ls hl => ?_)
  refine lv_goto (tgt := 13) C.1 C.2.1 dX1_choose_61 (by decide) ?_
  exact hK13 v1 S h _ _ _ hR (lv_sub hl [1, 0] rfl)
def f_X1_choose_13 : Nat → Int32 → Hp → Option Hp
  | 0, _, _ => none
  | k + 1, x1, S => ldP yH S 50 0 2 (fun p1 => ldI S (p1 + 1) 3 (0 : Int32) (fun v2 => if v2 ≤ x1 then some S else ldR yH 74 6 x1 4 64 (fun p3 => ob2 (f_X1_mostLeft p3 64 S) (fun r4 S4 => if (S4.1 70 3) ≤ r4 then f_X1_choose_58 (f_X1_choose_13 k) x1 S4 else le1 (ho_sI S4 70 2 x1) (fun S5 => le1 (ho_sI S5 70 3 r4) (fun S6 => f_X1_choose_58 (f_X1_choose_13 k) x1 S6))))))
set_option maxHeartbeats 4000000 in
set_option maxRecDepth 100000 in
theorem w_X1_choose_13 {p : Program} {l : Launch} {e : Env} {s : State} {m : MethodId} {args : Array Value} {below : List Frame} {meth : Method} {c : Code} {E : Ev} {S0 : Hp} {r : Hp} (C : ho_I p s m args meth c RX1 cX1_choose 3 none) :
    ∀ (k : Nat) (x1 : Int32) (S : Hp), f_X1_choose_13 k x1 S = some r → ho_G p l e s m args below meth c yH E S0 2 3 (none, r) 13 [(0, .ref (E.2.1 70)), (1, .int x1)] [] S := by
  intro k
  induction k with
  | zero =>
    intro x1 S h
    exact absurd (show (none : Option Hp) = some r from h) (by simp)
  | succ k ih =>
    intro x1 S h H locs ls hR hl
    rw [f_X1_choose_13] at h
    refine lv_iload_n C.1 C.2.1 dX1_choose_13 rfl (lv_at hl 1 rfl) ?_
    refine lv_aload_n C.1 C.2.1 dX1_choose_14 rfl (lv_at hl 0 rfl) ?_
    refine ho_getR (a' := 50) C cf1 fH_RX1_39 hR aH_70 rfl dX1_choose_15 ?_
    obtain ⟨p1, e1, hp1, h⟩ := ldP_ok h
    refine hr_getP C cf8 fH_RX1_48 hR aH_50 e1 dX1_choose_18 ?_
    refine ho_getR (a' := (p1 + 1)) C cf2 fH_RX1_80 hR hp1 (pH_2_5 hp1.2) dX1_choose_21 ?_
    refine lv_iconst (v := (0 : Int32)) C.1 C.2.1 dX1_choose_24 (by decide) ?_
    obtain ⟨v2, e2, hi2, h⟩ := ldI_ok h
    refine hr_ild C hR (rH_2_1 hp1) hi2 e2 dX1_choose_25 ?_
    refine lv_icmp_ge (tgt := 64) C.1 C.2.1 dX1_choose_26 (by decide) (fun hc => ?_) (fun hc => ?_)
    · replace h := if_t h hc
      exact ho_vret C hR h dX1_choose_64
    · replace h := if_f h hc
      refine lv_aload_n C.1 C.2.1 dX1_choose_29 rfl (lv_at hl 0 rfl) ?_
      refine lv_aload_n C.1 C.2.1 dX1_choose_30 rfl (lv_at hl 0 rfl) ?_
      refine ho_getR (a' := 74) C cf1 fH_RX1_36 hR aH_70 rfl dX1_choose_31 ?_
      refine lv_iload_n C.1 C.2.1 dX1_choose_34 rfl (lv_at hl 1 rfl) ?_
      obtain ⟨p3, e3, hi3, hp3, h⟩ := ldR_ok h
      refine hr_rld C hR aH_74 hi3 e3 dX1_choose_35 ?_
      obtain ⟨r4, S4, h4, h⟩ := ob2_ok h
      refine hr_Vi (v := r4) (S' := S4) (As := [.ref (E.2.1 p3)]) (rest := []) C cf1 (c_X1_mostLeft l E p3 64 hp3 _ _ h4) yv_X1_mostLeft lk_RX1_83 rfl aH_70 rfl rfl hl.1 (Nat.le_of_ble_eq_true rfl) (by decide) (by decide) hR (ho_A hR) dX1_choose_36 (fun H locs hR => ?_)
      refine lv_istore_n (lv' := [(2, .int r4), (0, .ref (E.2.1 70)), (1, .int x1)]) C.1 C.2.1 dX1_choose_39 rfl hl (by decide) rfl (fun ls hl => ?_)
      refine lv_iload_n C.1 C.2.1 dX1_choose_40 rfl (lv_at hl 0 rfl) ?_
      refine lv_aload_n C.1 C.2.1 dX1_choose_41 rfl (lv_at hl 1 rfl) ?_
      refine ho_getI C cf1 fH_RX1_21 hR aH_70 dX1_choose_42 ?_
      refine lv_icmp_ge (tgt := 58) C.1 C.2.1 dX1_choose_45 (by decide) (fun hc => ?_) (fun hc => ?_)
      · replace h := if_t h hc
        exact w_X1_choose_58 C (f_X1_choose_13 k) ih x1 S4 h _ _ _ hR (lv_sub hl [1, 2] rfl)
      · replace h := if_f h hc
        refine lv_aload_n C.1 C.2.1 dX1_choose_48 rfl (lv_at hl 1 rfl) ?_
        refine lv_iload_n C.1 C.2.1 dX1_choose_49 rfl (lv_at hl 2 rfl) ?_
        obtain ⟨S5, e5, h⟩ := le1_ok h
        refine hr_putI C cf1 fH_RX1_18 hR aH_70 e5 dX1_choose_50 (fun H locs hR => ?_)
        refine lv_aload_n C.1 C.2.1 dX1_choose_53 rfl (lv_at hl 1 rfl) ?_
        refine lv_iload_n C.1 C.2.1 dX1_choose_54 rfl (lv_at hl 0 rfl) ?_
        obtain ⟨S6, e6, h⟩ := le1_ok h
        refine hr_putI C cf1 fH_RX1_21 hR aH_70 e6 dX1_choose_55 (fun H locs hR => ?_)
        exact w_X1_choose_58 C (f_X1_choose_13 k) ih x1 S6 h _ _ _ hR (lv_sub hl [1, 2] rfl)
def f_X1_choose (S : Hp) : Option Hp :=
  le1 (ho_sI S 70 2 (-1 : Int32)) (fun S1 => le1 (ho_sI S1 70 3 (65 : Int32)) (fun S2 => f_X1_choose_13 5000 (0 : Int32) S2))
set_option maxHeartbeats 4000000 in
set_option maxRecDepth 100000 in
theorem c_X1_choose (l : Launch) (E : Ev) (S : Hp) (r : Hp) (h : f_X1_choose S = some r) : ho_M l yH E yX1_choose cX1_choose 3 none 2 [.ref (E.2.1 70)] S (none, r) := by
  refine ho_in (by decide) (Nat.le_of_ble_eq_true rfl) ?_
  intro p e s m args below meth c C hR ls hl
  have C : ho_I p s m args meth c RX1 cX1_choose 3 none := C
  have hl : lv_has ls 3 [(0, .ref (E.2.1 70))] := hl
  unfold f_X1_choose at h
  refine lv_aload_n C.1 C.2.1 dX1_choose_0 rfl (lv_at hl 0 rfl) ?_
  refine lv_iconst (v := (-1 : Int32)) C.1 C.2.1 dX1_choose_1 (by decide) ?_
  obtain ⟨S1, e1, h⟩ := le1_ok h
  refine hr_putI C cf1 fH_RX1_18 hR aH_70 e1 dX1_choose_2 (fun H locs hR => ?_)
  refine lv_aload_n C.1 C.2.1 dX1_choose_5 rfl (lv_at hl 0 rfl) ?_
  refine lv_bipush (v := (65 : Int32)) C.1 C.2.1 dX1_choose_6 (by decide) ?_
  obtain ⟨S2, e2, h⟩ := le1_ok h
  refine hr_putI C cf1 fH_RX1_21 hR aH_70 e2 dX1_choose_8 (fun H locs hR => ?_)
  refine lv_iconst (v := (0 : Int32)) C.1 C.2.1 dX1_choose_11 (by decide) ?_
  refine lv_istore_n (lv' := [(1, .int (0 : Int32)), (0, .ref (E.2.1 70))]) C.1 C.2.1 dX1_choose_12 rfl hl (by decide) rfl (fun ls hl => ?_)
  exact w_X1_choose_13 C 5000 (0 : Int32) S2 h _ _ _ hR (lv_sub hl [1, 0] rfl)
theorem dJ7_fill_53178_0 : decode cJ7_fill_53178 0 = .ok (.iconst 0, 1) := by decide +kernel
theorem dJ7_fill_53178_1 : decode cJ7_fill_53178 1 = .ok (.istore_n 2, 1) := by decide +kernel
theorem dJ7_fill_53178_2 : decode cJ7_fill_53178 2 = .ok (.aload_n 0, 1) := by decide +kernel
theorem dJ7_fill_53178_3 : decode cJ7_fill_53178 3 = .ok (.arraylength, 1) := by decide +kernel
theorem dJ7_fill_53178_4 : decode cJ7_fill_53178 4 = .ok (.istore_n 3, 1) := by decide +kernel
theorem dJ7_fill_53178_5 : decode cJ7_fill_53178 5 = .ok (.iload_n 2, 1) := by decide +kernel
theorem dJ7_fill_53178_6 : decode cJ7_fill_53178 6 = .ok (.iload_n 3, 1) := by decide +kernel
theorem dJ7_fill_53178_7 : decode cJ7_fill_53178 7 = .ok (.if_icmp .ge 13, 3) := by decide +kernel
theorem dJ7_fill_53178_10 : decode cJ7_fill_53178 10 = .ok (.aload_n 0, 1) := by decide +kernel
theorem dJ7_fill_53178_11 : decode cJ7_fill_53178 11 = .ok (.iload_n 2, 1) := by decide +kernel
theorem dJ7_fill_53178_12 : decode cJ7_fill_53178 12 = .ok (.iload_n 1, 1) := by decide +kernel
theorem dJ7_fill_53178_13 : decode cJ7_fill_53178 13 = .ok (.iastore, 1) := by decide +kernel
theorem dJ7_fill_53178_14 : decode cJ7_fill_53178 14 = .ok (.iinc 2 1, 3) := by decide +kernel
theorem dJ7_fill_53178_17 : decode cJ7_fill_53178 17 = .ok (.goto (-12), 3) := by decide +kernel
theorem dJ7_fill_53178_20 : decode cJ7_fill_53178 20 = .ok (.return_, 1) := by decide +kernel
def f_J7_fill_53178_5 (w0 n0 : Nat) : Nat → Int32 → Int32 → Int32 → Hp → Option Hp
  | 0, _, _, _, _ => none
  | k + 1, x1, x2, x3, S => if x3 ≤ x2 then some S else stI S w0 n0 x2 x1 (fun S1 => le1 (x2 + (1 : Int32)) (fun v2 => f_J7_fill_53178_5 w0 n0 k x1 v2 x3 S1))
set_option maxHeartbeats 4000000 in
set_option maxRecDepth 100000 in
theorem w_J7_fill_53178_5 {p : Program} {l : Launch} {e : Env} {s : State} {m : MethodId} {args : Array Value} {below : List Frame} {meth : Method} {c : Code} {E : Ev} {S0 : Hp} {r : Hp} (C : ho_I p s m args meth c RJ7 cJ7_fill_53178 4 none) (w0 n0 : Nat) (hw0 : w0 ∈ yH.1 ∧ yH.2.1 w0 = (4, n0)) :
    ∀ (k : Nat) (x1 : Int32) (x2 : Int32) (x3 : Int32) (S : Hp), f_J7_fill_53178_5 w0 n0 k x1 x2 x3 S = some r → ho_G p l e s m args below meth c yH E S0 0 4 (none, r) 5 [(0, .ref (E.2.1 w0)), (1, .int x1), (2, .int x2), (3, .int x3)] [] S := by
  intro k
  induction k with
  | zero =>
    intro x1 x2 x3 S h
    exact absurd (show (none : Option Hp) = some r from h) (by simp)
  | succ k ih =>
    intro x1 x2 x3 S h H locs ls hR hl
    rw [f_J7_fill_53178_5] at h
    refine lv_iload_n C.1 C.2.1 dJ7_fill_53178_5 rfl (lv_at hl 2 rfl) ?_
    refine lv_iload_n C.1 C.2.1 dJ7_fill_53178_6 rfl (lv_at hl 3 rfl) ?_
    refine lv_icmp_ge (tgt := 20) C.1 C.2.1 dJ7_fill_53178_7 (by decide) (fun hc => ?_) (fun hc => ?_)
    · replace h := if_t h hc
      exact ho_vret C hR h dJ7_fill_53178_20
    · replace h := if_f h hc
      refine lv_aload_n C.1 C.2.1 dJ7_fill_53178_10 rfl (lv_at hl 0 rfl) ?_
      refine lv_iload_n C.1 C.2.1 dJ7_fill_53178_11 rfl (lv_at hl 2 rfl) ?_
      refine lv_iload_n C.1 C.2.1 dJ7_fill_53178_12 rfl (lv_at hl 1 rfl) ?_
      obtain ⟨S1, e1, hi1, h⟩ := stI_ok h
      refine hr_ist C hR hw0 hi1 e1 dJ7_fill_53178_13 (fun H locs hR => ?_)
      obtain ⟨v2, e2, h⟩ := le1_ok h
      refine lv_iinc (v := v2) (lv' := [(2, .int v2), (0, .ref (E.2.1 w0)), (1, .int x1), (3, .int x3)]) C.1 C.2.1 dJ7_fill_53178_14 hl (k := 2) rfl (by rw [e2]; rfl) (by decide) rfl (fun ls hl => ?_)
      refine lv_goto (tgt := 5) C.1 C.2.1 dJ7_fill_53178_17 (by decide) ?_
      exact ih x1 v2 x3 S1 h _ _ _ hR (lv_sub hl [1, 2, 0, 3] rfl)
def f_J7_fill_53178 (w0 : Nat) (n0 : Nat) (x1 : Int32) (S : Hp) : Option Hp :=
  le1 (Int32.ofNat n0) (fun v1 => f_J7_fill_53178_5 w0 n0 5000 x1 (0 : Int32) v1 S)
set_option maxHeartbeats 4000000 in
set_option maxRecDepth 100000 in
theorem c_J7_fill_53178 (l : Launch) (E : Ev) (w0 : Nat) (n0 : Nat) (x1 : Int32) (hw0 : w0 ∈ yH.1 ∧ yH.2.1 w0 = (4, n0)) (S : Hp) (r : Hp) (h : f_J7_fill_53178 w0 n0 x1 S = some r) : ho_M l yH E yJ7_fill_53178 cJ7_fill_53178 4 none 0 [.ref (E.2.1 w0), .int x1] S (none, r) := by
  refine ho_in (by decide) (Nat.le_of_ble_eq_true rfl) ?_
  intro p e s m args below meth c C hR ls hl
  have C : ho_I p s m args meth c RJ7 cJ7_fill_53178 4 none := C
  have hl : lv_has ls 4 [(0, .ref (E.2.1 w0)), (1, .int x1)] := hl
  unfold f_J7_fill_53178 at h
  refine lv_iconst (v := (0 : Int32)) C.1 C.2.1 dJ7_fill_53178_0 (by decide) ?_
  refine lv_istore_n (lv' := [(2, .int (0 : Int32)), (0, .ref (E.2.1 w0)), (1, .int x1)]) C.1 C.2.1 dJ7_fill_53178_1 rfl hl (by decide) rfl (fun ls hl => ?_)
  refine lv_aload_n C.1 C.2.1 dJ7_fill_53178_2 rfl (lv_at hl 1 rfl) ?_
  refine ho_alen (by decide) C hR hw0 dJ7_fill_53178_3 ?_
  refine lv_topi (fun v1 e1 => ?_)
  replace h := le1_at e1 h
  refine lv_istore_n (lv' := [(3, .int v1), (2, .int (0 : Int32)), (0, .ref (E.2.1 w0)), (1, .int x1)]) C.1 C.2.1 dJ7_fill_53178_4 rfl hl (by decide) rfl (fun ls hl => ?_)
  exact w_J7_fill_53178_5 C w0 n0 hw0 5000 x1 (0 : Int32) v1 S h _ _ _ hR (lv_sub hl [2, 3, 1, 0] rfl)
theorem dX4_clear_0 : decode cX4_clear 0 = .ok (.aload_n 0, 1) := by decide +kernel
theorem dX4_clear_1 : decode cX4_clear 1 = .ok (.iconst 0, 1) := by decide +kernel
theorem dX4_clear_2 : decode cX4_clear 2 = .ok (.putfield 20, 3) := by decide +kernel
theorem dX4_clear_5 : decode cX4_clear 5 = .ok (.return_, 1) := by decide +kernel
def f_X4_clear (a0 : Nat) (S : Hp) : Option Hp :=
  le1 (ho_sI S a0 2 (0 : Int32)) (fun S1 => some S1)
set_option maxHeartbeats 4000000 in
set_option maxRecDepth 100000 in
theorem c_X4_clear (l : Launch) (E : Ev) (a0 : Nat) (ha0 : a0 ∈ yH.1 ∧ yH.2.1 a0 = (1, 4)) (S : Hp) (r : Hp) (h : f_X4_clear a0 S = some r) : ho_M l yH E yX4_clear cX4_clear 1 none 0 [.ref (E.2.1 a0)] S (none, r) := by
  refine ho_in (by decide) (Nat.le_of_ble_eq_true rfl) ?_
  intro p e s m args below meth c C hR ls hl
  have C : ho_I p s m args meth c RX4 cX4_clear 1 none := C
  have hl : lv_has ls 1 [(0, .ref (E.2.1 a0))] := hl
  unfold f_X4_clear at h
  refine lv_aload_n C.1 C.2.1 dX4_clear_0 rfl (lv_at hl 0 rfl) ?_
  refine lv_iconst (v := (0 : Int32)) C.1 C.2.1 dX4_clear_1 (by decide) ?_
  obtain ⟨S1, e1, h⟩ := le1_ok h
  refine hr_putI C cf4 fH_RX4_20 hR ha0 e1 dX4_clear_2 (fun H locs hR => ?_)
  exact ho_vret C hR h dX4_clear_5
theorem dX4_add_0 : decode cX4_add 0 = .ok (.aload_n 0, 1) := by decide +kernel
theorem dX4_add_1 : decode cX4_add 1 = .ok (.getfield 20, 3) := by decide +kernel
theorem dX4_add_4 : decode cX4_add 4 = .ok (.aload_n 0, 1) := by decide +kernel
theorem dX4_add_5 : decode cX4_add 5 = .ok (.getfield 11, 3) := by decide +kernel
theorem dX4_add_8 : decode cX4_add 8 = .ok (.arraylength, 1) := by decide +kernel
theorem dX4_add_9 : decode cX4_add 9 = .ok (.if_icmp .ge 23, 3) := by decide +kernel
theorem dX4_add_12 : decode cX4_add 12 = .ok (.aload_n 0, 1) := by decide +kernel
theorem dX4_add_13 : decode cX4_add 13 = .ok (.getfield 11, 3) := by decide +kernel
theorem dX4_add_16 : decode cX4_add 16 = .ok (.aload_n 0, 1) := by decide +kernel
theorem dX4_add_17 : decode cX4_add 17 = .ok (.getfield 20, 3) := by decide +kernel
theorem dX4_add_20 : decode cX4_add 20 = .ok (.iload_n 1, 1) := by decide +kernel
theorem dX4_add_21 : decode cX4_add 21 = .ok (.iastore, 1) := by decide +kernel
theorem dX4_add_22 : decode cX4_add 22 = .ok (.aload_n 0, 1) := by decide +kernel
theorem dX4_add_23 : decode cX4_add 23 = .ok (.dup, 1) := by decide +kernel
theorem dX4_add_24 : decode cX4_add 24 = .ok (.getfield 20, 3) := by decide +kernel
theorem dX4_add_27 : decode cX4_add 27 = .ok (.iconst 1, 1) := by decide +kernel
theorem dX4_add_28 : decode cX4_add 28 = .ok (.iadd, 1) := by decide +kernel
theorem dX4_add_29 : decode cX4_add 29 = .ok (.putfield 20, 3) := by decide +kernel
theorem dX4_add_32 : decode cX4_add 32 = .ok (.return_, 1) := by decide +kernel
def f_X4_add (a0 : Nat) (x1 : Int32) (S : Hp) : Option Hp :=
  if (Int32.ofNat 1600) ≤ (S.1 a0 2) then some S else stI S (a0 + 1) 1600 (S.1 a0 2) x1 (fun S1 => le1 (ho_sI S1 a0 2 ((S1.1 a0 2) + (1 : Int32))) (fun S2 => some S2))
set_option maxHeartbeats 4000000 in
set_option maxRecDepth 100000 in
theorem c_X4_add (l : Launch) (E : Ev) (a0 : Nat) (x1 : Int32) (ha0 : a0 ∈ yH.1 ∧ yH.2.1 a0 = (1, 4)) (S : Hp) (r : Hp) (h : f_X4_add a0 x1 S = some r) : ho_M l yH E yX4_add cX4_add 2 none 0 [.ref (E.2.1 a0), .int x1] S (none, r) := by
  refine ho_in (by decide) (Nat.le_of_ble_eq_true rfl) ?_
  intro p e s m args below meth c C hR ls hl
  have C : ho_I p s m args meth c RX4 cX4_add 2 none := C
  have hl : lv_has ls 2 [(0, .ref (E.2.1 a0)), (1, .int x1)] := hl
  unfold f_X4_add at h
  refine lv_aload_n C.1 C.2.1 dX4_add_0 rfl (lv_at hl 0 rfl) ?_
  refine ho_getI C cf4 fH_RX4_20 hR ha0 dX4_add_1 ?_
  refine lv_aload_n C.1 C.2.1 dX4_add_4 rfl (lv_at hl 0 rfl) ?_
  refine ho_getR (a' := (a0 + 1)) C cf4 fH_RX4_11 hR ha0 (pH_4_0 ha0.2) dX4_add_5 ?_
  refine ho_alen (by decide) C hR (rH_4_1 ha0) dX4_add_8 ?_
  refine lv_icmp_ge (tgt := 32) C.1 C.2.1 dX4_add_9 (by decide) (fun hc => ?_) (fun hc => ?_)
  · replace h := if_t h hc
    exact ho_vret C hR h dX4_add_32
  · replace h := if_f h hc
    refine lv_aload_n C.1 C.2.1 dX4_add_12 rfl (lv_at hl 0 rfl) ?_
    refine ho_getR (a' := (a0 + 1)) C cf4 fH_RX4_11 hR ha0 (pH_4_0 ha0.2) dX4_add_13 ?_
    refine lv_aload_n C.1 C.2.1 dX4_add_16 rfl (lv_at hl 0 rfl) ?_
    refine ho_getI C cf4 fH_RX4_20 hR ha0 dX4_add_17 ?_
    refine lv_iload_n C.1 C.2.1 dX4_add_20 rfl (lv_at hl 1 rfl) ?_
    obtain ⟨S1, e1, hi1, h⟩ := stI_ok h
    refine hr_ist C hR (rH_4_1 ha0) hi1 e1 dX4_add_21 (fun H locs hR => ?_)
    refine lv_aload_n C.1 C.2.1 dX4_add_22 rfl (lv_at hl 0 rfl) ?_
    refine lv_dup C.1 C.2.1 dX4_add_23 rfl ?_
    refine ho_getI C cf4 fH_RX4_20 hR ha0 dX4_add_24 ?_
    refine lv_iconst (v := (1 : Int32)) C.1 C.2.1 dX4_add_27 (by decide) ?_
    refine lv_iadd C.1 C.2.1 dX4_add_28 ?_
    obtain ⟨S2, e2, h⟩ := le1_ok h
    refine hr_putI C cf4 fH_RX4_20 hR ha0 e2 dX4_add_29 (fun H locs hR => ?_)
    exact ho_vret C hR h dX4_add_32
theorem dX2_clear_0 : decode cX2_clear 0 = .ok (.aload_n 0, 1) := by decide +kernel
theorem dX2_clear_1 : decode cX2_clear 1 = .ok (.bipush 50, 2) := by decide +kernel
theorem dX2_clear_3 : decode cX2_clear 3 = .ok (.putfield 21, 3) := by decide +kernel
theorem dX2_clear_6 : decode cX2_clear 6 = .ok (.aload_n 0, 1) := by decide +kernel
theorem dX2_clear_7 : decode cX2_clear 7 = .ok (.iconst 0, 1) := by decide +kernel
theorem dX2_clear_8 : decode cX2_clear 8 = .ok (.putfield 24, 3) := by decide +kernel
theorem dX2_clear_11 : decode cX2_clear 11 = .ok (.aload_n 0, 1) := by decide +kernel
theorem dX2_clear_12 : decode cX2_clear 12 = .ok (.getfield 27, 3) := by decide +kernel
theorem dX2_clear_15 : decode cX2_clear 15 = .ok (.iconst 0, 1) := by decide +kernel
theorem dX2_clear_16 : decode cX2_clear 16 = .ok (.invokestatic 67, 3) := by decide +kernel
theorem dX2_clear_19 : decode cX2_clear 19 = .ok (.aload_n 0, 1) := by decide +kernel
theorem dX2_clear_20 : decode cX2_clear 20 = .ok (.getfield 60, 3) := by decide +kernel
theorem dX2_clear_23 : decode cX2_clear 23 = .ok (.invokevirtual 73, 3) := by decide +kernel
theorem dX2_clear_26 : decode cX2_clear 26 = .ok (.aload_n 0, 1) := by decide +kernel
theorem dX2_clear_27 : decode cX2_clear 27 = .ok (.getfield 60, 3) := by decide +kernel
theorem dX2_clear_30 : decode cX2_clear 30 = .ok (.sipush 10011, 3) := by decide +kernel
theorem dX2_clear_33 : decode cX2_clear 33 = .ok (.invokevirtual 78, 3) := by decide +kernel
theorem dX2_clear_36 : decode cX2_clear 36 = .ok (.aload_n 0, 1) := by decide +kernel
theorem dX2_clear_37 : decode cX2_clear 37 = .ok (.getfield 64, 3) := by decide +kernel
theorem dX2_clear_40 : decode cX2_clear 40 = .ok (.invokevirtual 73, 3) := by decide +kernel
theorem dX2_clear_43 : decode cX2_clear 43 = .ok (.aload_n 0, 1) := by decide +kernel
theorem dX2_clear_44 : decode cX2_clear 44 = .ok (.getfield 64, 3) := by decide +kernel
theorem dX2_clear_47 : decode cX2_clear 47 = .ok (.bipush 10, 2) := by decide +kernel
theorem dX2_clear_49 : decode cX2_clear 49 = .ok (.invokevirtual 78, 3) := by decide +kernel
theorem dX2_clear_52 : decode cX2_clear 52 = .ok (.return_, 1) := by decide +kernel
def f_X2_clear (a0 : Nat) (S : Hp) : Option Hp :=
  le1 (ho_sI S a0 3 (50 : Int32)) (fun S1 => le1 (ho_sI S1 a0 4 (0 : Int32)) (fun S2 => ob (f_J7_fill_53178 (a0 + 1) 3 (0 : Int32) S2) (fun S3 => ob (f_X4_clear (a0 + 13) S3) (fun S4 => ob (f_X4_add (a0 + 13) (10011 : Int32) S4) (fun S5 => ob (f_X4_clear (a0 + 16) S5) (fun S6 => ob (f_X4_add (a0 + 16) (10 : Int32) S6) (fun S7 => some S7)))))))
set_option maxHeartbeats 4000000 in
set_option maxRecDepth 100000 in
theorem c_X2_clear (l : Launch) (E : Ev) (a0 : Nat) (ha0 : a0 ∈ yH.1 ∧ yH.2.1 a0 = (1, 2)) (S : Hp) (r : Hp) (h : f_X2_clear a0 S = some r) : ho_M l yH E yX2_clear cX2_clear 1 none 1 [.ref (E.2.1 a0)] S (none, r) := by
  refine ho_in (by decide) (Nat.le_of_ble_eq_true rfl) ?_
  intro p e s m args below meth c C hR ls hl
  have C : ho_I p s m args meth c RX2 cX2_clear 1 none := C
  have hl : lv_has ls 1 [(0, .ref (E.2.1 a0))] := hl
  unfold f_X2_clear at h
  refine lv_aload_n C.1 C.2.1 dX2_clear_0 rfl (lv_at hl 0 rfl) ?_
  refine lv_bipush (v := (50 : Int32)) C.1 C.2.1 dX2_clear_1 (by decide) ?_
  obtain ⟨S1, e1, h⟩ := le1_ok h
  refine hr_putI C cf2 fH_RX2_21 hR ha0 e1 dX2_clear_3 (fun H locs hR => ?_)
  refine lv_aload_n C.1 C.2.1 dX2_clear_6 rfl (lv_at hl 0 rfl) ?_
  refine lv_iconst (v := (0 : Int32)) C.1 C.2.1 dX2_clear_7 (by decide) ?_
  obtain ⟨S2, e2, h⟩ := le1_ok h
  refine hr_putI C cf2 fH_RX2_24 hR ha0 e2 dX2_clear_8 (fun H locs hR => ?_)
  refine lv_aload_n C.1 C.2.1 dX2_clear_11 rfl (lv_at hl 0 rfl) ?_
  refine ho_getR (a' := (a0 + 1)) C cf2 fH_RX2_27 hR ha0 (pH_2_5 ha0.2) dX2_clear_12 ?_
  refine lv_iconst (v := (0 : Int32)) C.1 C.2.1 dX2_clear_15 (by decide) ?_
  obtain ⟨S3, h3, h⟩ := ob_ok h
  refine hr_Sv (S' := S3) (As := [.ref (E.2.1 (a0 + 1)), .int (0 : Int32)]) (rest := []) C (c_J7_fill_53178 l E (a0 + 1) 3 (0 : Int32) (rH_2_1 ha0) _ _ h3) ys_J7_fill_53178 lk_RX2_67 rfl rfl hl.1 (Nat.le_of_ble_eq_true rfl) (by decide) (by decide) hR (ho_A hR) dX2_clear_16 (fun H locs hR => ?_)
  refine lv_aload_n C.1 C.2.1 dX2_clear_19 rfl (lv_at hl 0 rfl) ?_
  refine ho_getR (a' := (a0 + 13)) C cf2 fH_RX2_60 hR ha0 (pH_2_14 ha0.2) dX2_clear_20 ?_
  obtain ⟨S4, h4, h⟩ := ob_ok h
  refine hr_Vv (S' := S4) (As := []) (rest := []) C cf4 (c_X4_clear l E (a0 + 13) (rH_2_13 ha0) _ _ h4) yv_X4_clear lk_RX2_73 rfl (rH_2_13 ha0) rfl rfl hl.1 (Nat.le_of_ble_eq_true rfl) (by decide) (by decide) hR (ho_A hR) dX2_clear_23 (fun H locs hR => ?_)
  refine lv_aload_n C.1 C.2.1 dX2_clear_26 rfl (lv_at hl 0 rfl) ?_
  refine ho_getR (a' := (a0 + 13)) C cf2 fH_RX2_60 hR ha0 (pH_2_14 ha0.2) dX2_clear_27 ?_
  refine lv_sipush (v := (10011 : Int32)) C.1 C.2.1 dX2_clear_30 (by decide) ?_
  obtain ⟨S5, h5, h⟩ := ob_ok h
  refine hr_Vv (S' := S5) (As := [.int (10011 : Int32)]) (rest := []) C cf4 (c_X4_add l E (a0 + 13) (10011 : Int32) (rH_2_13 ha0) _ _ h5) yv_X4_add lk_RX2_78 rfl (rH_2_13 ha0) rfl rfl hl.1 (Nat.le_of_ble_eq_true rfl) (by decide) (by decide) hR (ho_A hR) dX2_clear_33 (fun H locs hR => ?_)
  refine lv_aload_n C.1 C.2.1 dX2_clear_36 rfl (lv_at hl 0 rfl) ?_
  refine ho_getR (a' := (a0 + 16)) C cf2 fH_RX2_64 hR ha0 (pH_2_15 ha0.2) dX2_clear_37 ?_
  obtain ⟨S6, h6, h⟩ := ob_ok h
  refine hr_Vv (S' := S6) (As := []) (rest := []) C cf4 (c_X4_clear l E (a0 + 16) (rH_2_16 ha0) _ _ h6) yv_X4_clear lk_RX2_73 rfl (rH_2_16 ha0) rfl rfl hl.1 (Nat.le_of_ble_eq_true rfl) (by decide) (by decide) hR (ho_A hR) dX2_clear_40 (fun H locs hR => ?_)
  refine lv_aload_n C.1 C.2.1 dX2_clear_43 rfl (lv_at hl 0 rfl) ?_
  refine ho_getR (a' := (a0 + 16)) C cf2 fH_RX2_64 hR ha0 (pH_2_15 ha0.2) dX2_clear_44 ?_
  refine lv_bipush (v := (10 : Int32)) C.1 C.2.1 dX2_clear_47 (by decide) ?_
  obtain ⟨S7, h7, h⟩ := ob_ok h
  refine hr_Vv (S' := S7) (As := [.int (10 : Int32)]) (rest := []) C cf4 (c_X4_add l E (a0 + 16) (10 : Int32) (rH_2_16 ha0) _ _ h7) yv_X4_add lk_RX2_78 rfl (rH_2_16 ha0) rfl rfl hl.1 (Nat.le_of_ble_eq_true rfl) (by decide) (by decide) hR (ho_A hR) dX2_clear_49 (fun H locs hR => ?_)
  exact ho_vret C hR h dX2_clear_52
theorem dX2_numberOf_0 : decode cX2_numberOf 0 = .ok (.iconst 0, 1) := by decide +kernel
theorem dX2_numberOf_1 : decode cX2_numberOf 1 = .ok (.istore_n 3, 1) := by decide +kernel
theorem dX2_numberOf_2 : decode cX2_numberOf 2 = .ok (.iload_n 3, 1) := by decide +kernel
theorem dX2_numberOf_3 : decode cX2_numberOf 3 = .ok (.aload_n 0, 1) := by decide +kernel
theorem dX2_numberOf_4 : decode cX2_numberOf 4 = .ok (.getfield 27, 3) := by decide +kernel
theorem dX2_numberOf_7 : decode cX2_numberOf 7 = .ok (.iload_n 1, 1) := by decide +kernel
theorem dX2_numberOf_8 : decode cX2_numberOf 8 = .ok (.iaload, 1) := by decide +kernel
theorem dX2_numberOf_9 : decode cX2_numberOf 9 = .ok (.if_icmp .ge 23, 3) := by decide +kernel
theorem dX2_numberOf_12 : decode cX2_numberOf 12 = .ok (.aload_n 0, 1) := by decide +kernel
theorem dX2_numberOf_13 : decode cX2_numberOf 13 = .ok (.getfield 33, 3) := by decide +kernel
theorem dX2_numberOf_16 : decode cX2_numberOf 16 = .ok (.iload_n 1, 1) := by decide +kernel
theorem dX2_numberOf_17 : decode cX2_numberOf 17 = .ok (.aaload, 1) := by decide +kernel
theorem dX2_numberOf_18 : decode cX2_numberOf 18 = .ok (.iload_n 3, 1) := by decide +kernel
theorem dX2_numberOf_19 : decode cX2_numberOf 19 = .ok (.iaload, 1) := by decide +kernel
theorem dX2_numberOf_20 : decode cX2_numberOf 20 = .ok (.iload_n 2, 1) := by decide +kernel
theorem dX2_numberOf_21 : decode cX2_numberOf 21 = .ok (.if_icmp .ne 5, 3) := by decide +kernel
theorem dX2_numberOf_24 : decode cX2_numberOf 24 = .ok (.iload_n 3, 1) := by decide +kernel
theorem dX2_numberOf_25 : decode cX2_numberOf 25 = .ok (.ireturn, 1) := by decide +kernel
theorem dX2_numberOf_26 : decode cX2_numberOf 26 = .ok (.iinc 3 1, 3) := by decide +kernel
theorem dX2_numberOf_29 : decode cX2_numberOf 29 = .ok (.goto (-27), 3) := by decide +kernel
theorem dX2_numberOf_32 : decode cX2_numberOf 32 = .ok (.iconst (-1), 1) := by decide +kernel
theorem dX2_numberOf_33 : decode cX2_numberOf 33 = .ok (.ireturn, 1) := by decide +kernel
def f_X2_numberOf_2 (a0 : Nat) : Nat → Int32 → Int32 → Int32 → Hp → Option (Int32 × Hp)
  | 0, _, _, _, _ => none
  | k + 1, x1, x2, x3, S => ldI S (a0 + 1) 3 x1 (fun v1 => if v1 ≤ x3 then some ((-1 : Int32), S) else ldR yH (a0 + 2) 3 x1 4 6 (fun p2 => ldI S p2 6 x3 (fun v3 => if v3 = x2 then some (x3, S) else le1 (x3 + (1 : Int32)) (fun v4 => f_X2_numberOf_2 a0 k x1 x2 v4 S))))
set_option maxHeartbeats 4000000 in
set_option maxRecDepth 100000 in
theorem w_X2_numberOf_2 {p : Program} {l : Launch} {e : Env} {s : State} {m : MethodId} {args : Array Value} {below : List Frame} {meth : Method} {c : Code} {E : Ev} {S0 : Hp} {r : (Int32 × Hp)} (C : ho_I p s m args meth c RX2 cX2_numberOf 4 (some .int)) (a0 : Nat) (ha0 : a0 ∈ yH.1 ∧ yH.2.1 a0 = (1, 2)) :
    ∀ (k : Nat) (x1 : Int32) (x2 : Int32) (x3 : Int32) (S : Hp), f_X2_numberOf_2 a0 k x1 x2 x3 S = some r → ho_G p l e s m args below meth c yH E S0 0 4 (some (.int r.1), r.2) 2 [(0, .ref (E.2.1 a0)), (1, .int x1), (2, .int x2), (3, .int x3)] [] S := by
  intro k
  induction k with
  | zero =>
    intro x1 x2 x3 S h
    exact absurd (show (none : Option (Int32 × Hp)) = some r from h) (by simp)
  | succ k ih =>
    intro x1 x2 x3 S h H locs ls hR hl
    rw [f_X2_numberOf_2] at h
    refine lv_iload_n C.1 C.2.1 dX2_numberOf_2 rfl (lv_at hl 3 rfl) ?_
    refine lv_aload_n C.1 C.2.1 dX2_numberOf_3 rfl (lv_at hl 0 rfl) ?_
    refine ho_getR (a' := (a0 + 1)) C cf2 fH_RX2_27 hR ha0 (pH_2_5 ha0.2) dX2_numberOf_4 ?_
    refine lv_iload_n C.1 C.2.1 dX2_numberOf_7 rfl (lv_at hl 1 rfl) ?_
    obtain ⟨v1, e1, hi1, h⟩ := ldI_ok h
    refine hr_ild C hR (rH_2_1 ha0) hi1 e1 dX2_numberOf_8 ?_
    refine lv_icmp_ge (tgt := 32) C.1 C.2.1 dX2_numberOf_9 (by decide) (fun hc => ?_) (fun hc => ?_)
    · replace h := if_t h hc
      refine lv_iconst (v := (-1 : Int32)) C.1 C.2.1 dX2_numberOf_32 (by decide) ?_
      exact ho_iret C hR h dX2_numberOf_33
    · replace h := if_f h hc
      refine lv_aload_n C.1 C.2.1 dX2_numberOf_12 rfl (lv_at hl 0 rfl) ?_
      refine ho_getR (a' := (a0 + 2)) C cf2 fH_RX2_33 hR ha0 (pH_2_6 ha0.2) dX2_numberOf_13 ?_
      refine lv_iload_n C.1 C.2.1 dX2_numberOf_16 rfl (lv_at hl 1 rfl) ?_
      obtain ⟨p2, e2, hi2, hp2, h⟩ := ldR_ok h
      refine hr_rld C hR (rH_2_2 ha0) hi2 e2 dX2_numberOf_17 ?_
      refine lv_iload_n C.1 C.2.1 dX2_numberOf_18 rfl (lv_at hl 3 rfl) ?_
      obtain ⟨v3, e3, hi3, h⟩ := ldI_ok h
      refine hr_ild C hR hp2 hi3 e3 dX2_numberOf_19 ?_
      refine lv_iload_n C.1 C.2.1 dX2_numberOf_20 rfl (lv_at hl 2 rfl) ?_
      refine lv_icmp_ne (tgt := 26) C.1 C.2.1 dX2_numberOf_21 (by decide) (fun hc => ?_) (fun hc => ?_)
      · replace h := if_f h hc
        obtain ⟨v4, e4, h⟩ := le1_ok h
        refine lv_iinc (v := v4) (lv' := [(3, .int v4), (0, .ref (E.2.1 a0)), (1, .int x1), (2, .int x2)]) C.1 C.2.1 dX2_numberOf_26 hl (k := 3) rfl (by rw [e4]; rfl) (by decide) rfl (fun ls hl => ?_)
        refine lv_goto (tgt := 2) C.1 C.2.1 dX2_numberOf_29 (by decide) ?_
        exact ih x1 x2 v4 S h _ _ _ hR (lv_sub hl [1, 2, 3, 0] rfl)
      · replace h := if_t h hc
        refine lv_iload_n C.1 C.2.1 dX2_numberOf_24 rfl (lv_at hl 3 rfl) ?_
        exact ho_iret C hR h dX2_numberOf_25
def f_X2_numberOf (a0 : Nat) (x1 : Int32) (x2 : Int32) (S : Hp) : Option (Int32 × Hp) :=
  f_X2_numberOf_2 a0 5000 x1 x2 (0 : Int32) S
set_option maxHeartbeats 4000000 in
set_option maxRecDepth 100000 in
theorem c_X2_numberOf (l : Launch) (E : Ev) (a0 : Nat) (x1 : Int32) (x2 : Int32) (ha0 : a0 ∈ yH.1 ∧ yH.2.1 a0 = (1, 2)) (S : Hp) (r : (Int32 × Hp)) (h : f_X2_numberOf a0 x1 x2 S = some r) : ho_M l yH E yX2_numberOf cX2_numberOf 4 (some .int) 0 [.ref (E.2.1 a0), .int x1, .int x2] S (some (.int r.1), r.2) := by
  refine ho_in (by decide) (Nat.le_of_ble_eq_true rfl) ?_
  intro p e s m args below meth c C hR ls hl
  have C : ho_I p s m args meth c RX2 cX2_numberOf 4 (some .int) := C
  have hl : lv_has ls 4 [(0, .ref (E.2.1 a0)), (1, .int x1), (2, .int x2)] := hl
  unfold f_X2_numberOf at h
  refine lv_iconst (v := (0 : Int32)) C.1 C.2.1 dX2_numberOf_0 (by decide) ?_
  refine lv_istore_n (lv' := [(3, .int (0 : Int32)), (0, .ref (E.2.1 a0)), (1, .int x1), (2, .int x2)]) C.1 C.2.1 dX2_numberOf_1 rfl hl (by decide) rfl (fun ls hl => ?_)
  exact w_X2_numberOf_2 C a0 ha0 5000 x1 x2 (0 : Int32) S h _ _ _ hR (lv_sub hl [1, 2, 3, 0] rfl)
theorem dX2_tricksFrom_0 : decode cX2_tricksFrom 0 = .ok (.iconst 0, 1) := by decide +kernel
theorem dX2_tricksFrom_1 : decode cX2_tricksFrom 1 = .ok (.istore_n 2, 1) := by decide +kernel
theorem dX2_tricksFrom_2 : decode cX2_tricksFrom 2 = .ok (.iconst 0, 1) := by decide +kernel
theorem dX2_tricksFrom_3 : decode cX2_tricksFrom 3 = .ok (.istore_n 3, 1) := by decide +kernel
theorem dX2_tricksFrom_4 : decode cX2_tricksFrom 4 = .ok (.iload_n 3, 1) := by decide +kernel
theorem dX2_tricksFrom_5 : decode cX2_tricksFrom 5 = .ok (.aload_n 0, 1) := by decide +kernel
theorem dX2_tricksFrom_6 : decode cX2_tricksFrom 6 = .ok (.getfield 27, 3) := by decide +kernel
theorem dX2_tricksFrom_9 : decode cX2_tricksFrom 9 = .ok (.iconst 1, 1) := by decide +kernel
theorem dX2_tricksFrom_10 : decode cX2_tricksFrom 10 = .ok (.iaload, 1) := by decide +kernel
theorem dX2_tricksFrom_11 : decode cX2_tricksFrom 11 = .ok (.if_icmp .ge 25, 3) := by decide +kernel
theorem dX2_tricksFrom_14 : decode cX2_tricksFrom 14 = .ok (.aload_n 0, 1) := by decide +kernel
theorem dX2_tricksFrom_15 : decode cX2_tricksFrom 15 = .ok (.getfield 45, 3) := by decide +kernel
theorem dX2_tricksFrom_18 : decode cX2_tricksFrom 18 = .ok (.iload_n 3, 1) := by decide +kernel
theorem dX2_tricksFrom_19 : decode cX2_tricksFrom 19 = .ok (.iaload, 1) := by decide +kernel
theorem dX2_tricksFrom_20 : decode cX2_tricksFrom 20 = .ok (.iload_n 1, 1) := by decide +kernel
theorem dX2_tricksFrom_21 : decode cX2_tricksFrom 21 = .ok (.if_icmp .ne 9, 3) := by decide +kernel
theorem dX2_tricksFrom_24 : decode cX2_tricksFrom 24 = .ok (.iload_n 2, 1) := by decide +kernel
theorem dX2_tricksFrom_25 : decode cX2_tricksFrom 25 = .ok (.iconst 1, 1) := by decide +kernel
theorem dX2_tricksFrom_26 : decode cX2_tricksFrom 26 = .ok (.iload_n 3, 1) := by decide +kernel
theorem dX2_tricksFrom_27 : decode cX2_tricksFrom 27 = .ok (.ishl, 1) := by decide +kernel
theorem dX2_tricksFrom_28 : decode cX2_tricksFrom 28 = .ok (.ior, 1) := by decide +kernel
theorem dX2_tricksFrom_29 : decode cX2_tricksFrom 29 = .ok (.istore_n 2, 1) := by decide +kernel
theorem dX2_tricksFrom_30 : decode cX2_tricksFrom 30 = .ok (.iinc 3 1, 3) := by decide +kernel
theorem dX2_tricksFrom_33 : decode cX2_tricksFrom 33 = .ok (.goto (-29), 3) := by decide +kernel
theorem dX2_tricksFrom_36 : decode cX2_tricksFrom 36 = .ok (.iload_n 2, 1) := by decide +kernel
theorem dX2_tricksFrom_37 : decode cX2_tricksFrom 37 = .ok (.ireturn, 1) := by decide +kernel
def f_X2_tricksFrom_30 (K4 : Int32 → Int32 → Int32 → Hp → Option (Int32 × Hp)) (a0 : Nat) (x1 : Int32) (x2 : Int32) (x3 : Int32) (S : Hp) : Option (Int32 × Hp) :=
  le1 (x3 + (1 : Int32)) (fun v1 => K4 x1 x2 v1 S)
set_option maxHeartbeats 4000000 in
set_option maxRecDepth 100000 in
theorem w_X2_tricksFrom_30 {p : Program} {l : Launch} {e : Env} {s : State} {m : MethodId} {args : Array Value} {below : List Frame} {meth : Method} {c : Code} {E : Ev} {S0 : Hp} {r : (Int32 × Hp)} (C : ho_I p s m args meth c RX2 cX2_tricksFrom 4 (some .int)) (K4 : Int32 → Int32 → Int32 → Hp → Option (Int32 × Hp)) (a0 : Nat) (ha0 : a0 ∈ yH.1 ∧ yH.2.1 a0 = (1, 2)) (hK4 : ∀ (y1 : Int32) (y2 : Int32) (y3 : Int32) (S : Hp), K4 y1 y2 y3 S = some r → ho_G p l e s m args below meth c yH E S0 0 4 (some (.int r.1), r.2) 4 [(0, .ref (E.2.1 a0)), (1, .int y1), (2, .int y2), (3, .int y3)] [] S) :
    ∀ (x1 : Int32) (x2 : Int32) (x3 : Int32) (S : Hp), f_X2_tricksFrom_30 K4 a0 x1 x2 x3 S = some r → ho_G p l e s m args below meth c yH E S0 0 4 (some (.int r.1), r.2) 30 [(0, .ref (E.2.1 a0)), (1, .int x1), (2, .int x2), (3, .int x3)] [] S := by
  intro x1 x2 x3 S h H locs ls hR hl
  unfold f_X2_tricksFrom_30 at h
  obtain ⟨v1, e1, h⟩ := le1_ok h
  refine lv_iinc (v := v1) (lv' := [(3, .int v1), (0, .ref (E.2.1 a0)), (1, .int x1), (2, .int x2)]) C.1 C.2.1 dX2_tricksFrom_30 hl (k := 3) rfl (by rw [e1]; rfl) (by decide) rfl (fun ls hl => ?_)
  refine lv_goto (tgt := 4) C.1 C.2.1 dX2_tricksFrom_33 (by decide) ?_
  exact hK4 x1 x2 v1 S h _ _ _ hR (lv_sub hl [1, 2, 3, 0] rfl)
def f_X2_tricksFrom_4 (a0 : Nat) : Nat → Int32 → Int32 → Int32 → Hp → Option (Int32 × Hp)
  | 0, _, _, _, _ => none
  | k + 1, x1, x2, x3, S => ldI S (a0 + 1) 3 (1 : Int32) (fun v1 => if v1 ≤ x3 then some (x2, S) else ldI S (a0 + 9) 6 x3 (fun v2 => if v2 = x1 then le1 (x2 ||| ((1 : Int32) <<< (x3 &&& 31))) (fun v3 => f_X2_tricksFrom_30 (f_X2_tricksFrom_4 a0 k) a0 x1 v3 x3 S) else f_X2_tricksFrom_30 (f_X2_tricksFrom_4 a0 k) a0 x1 x2 x3 S))
set_option maxHeartbeats 4000000 in
set_option maxRecDepth 100000 in
theorem w_X2_tricksFrom_4 {p : Program} {l : Launch} {e : Env} {s : State} {m : MethodId} {args : Array Value} {below : List Frame} {meth : Method} {c : Code} {E : Ev} {S0 : Hp} {r : (Int32 × Hp)} (C : ho_I p s m args meth c RX2 cX2_tricksFrom 4 (some .int)) (a0 : Nat) (ha0 : a0 ∈ yH.1 ∧ yH.2.1 a0 = (1, 2)) :
    ∀ (k : Nat) (x1 : Int32) (x2 : Int32) (x3 : Int32) (S : Hp), f_X2_tricksFrom_4 a0 k x1 x2 x3 S = some r → ho_G p l e s m args below meth c yH E S0 0 4 (some (.int r.1), r.2) 4 [(0, .ref (E.2.1 a0)), (1, .int x1), (2, .int x2), (3, .int x3)] [] S := by
  intro k
  induction k with
  | zero =>
    intro x1 x2 x3 S h
    exact absurd (show (none : Option (Int32 × Hp)) = some r from h) (by simp)
  | succ k ih =>
    intro x1 x2 x3 S h H locs ls hR hl
    rw [f_X2_tricksFrom_4] at h
    refine lv_iload_n C.1 C.2.1 dX2_tricksFrom_4 rfl (lv_at hl 3 rfl) ?_
    refine lv_aload_n C.1 C.2.1 dX2_tricksFrom_5 rfl (lv_at hl 0 rfl) ?_
    refine ho_getR (a' := (a0 + 1)) C cf2 fH_RX2_27 hR ha0 (pH_2_5 ha0.2) dX2_tricksFrom_6 ?_
    refine lv_iconst (v := (1 : Int32)) C.1 C.2.1 dX2_tricksFrom_9 (by decide) ?_
    obtain ⟨v1, e1, hi1, h⟩ := ldI_ok h
    refine hr_ild C hR (rH_2_1 ha0) hi1 e1 dX2_tricksFrom_10 ?_
    refine lv_icmp_ge (tgt := 36) C.1 C.2.1 dX2_tricksFrom_11 (by decide) (fun hc => ?_) (fun hc => ?_)
    · replace h := if_t h hc
      refine lv_iload_n C.1 C.2.1 dX2_tricksFrom_36 rfl (lv_at hl 2 rfl) ?_
      exact ho_iret C hR h dX2_tricksFrom_37
    · replace h := if_f h hc
      refine lv_aload_n C.1 C.2.1 dX2_tricksFrom_14 rfl (lv_at hl 0 rfl) ?_
      refine ho_getR (a' := (a0 + 9)) C cf2 fH_RX2_45 hR ha0 (pH_2_10 ha0.2) dX2_tricksFrom_15 ?_
      refine lv_iload_n C.1 C.2.1 dX2_tricksFrom_18 rfl (lv_at hl 3 rfl) ?_
      obtain ⟨v2, e2, hi2, h⟩ := ldI_ok h
      refine hr_ild C hR (rH_2_9 ha0) hi2 e2 dX2_tricksFrom_19 ?_
      refine lv_iload_n C.1 C.2.1 dX2_tricksFrom_20 rfl (lv_at hl 1 rfl) ?_
      refine lv_icmp_ne (tgt := 30) C.1 C.2.1 dX2_tricksFrom_21 (by decide) (fun hc => ?_) (fun hc => ?_)
      · replace h := if_f h hc
        exact w_X2_tricksFrom_30 C (f_X2_tricksFrom_4 a0 k) a0 ha0 ih x1 x2 x3 S h _ _ _ hR (lv_sub hl [0, 1, 2, 3] rfl)
      · replace h := if_t h hc
        refine lv_iload_n C.1 C.2.1 dX2_tricksFrom_24 rfl (lv_at hl 2 rfl) ?_
        refine lv_iconst (v := (1 : Int32)) C.1 C.2.1 dX2_tricksFrom_25 (by decide) ?_
        refine lv_iload_n C.1 C.2.1 dX2_tricksFrom_26 rfl (lv_at hl 3 rfl) ?_
        refine lv_ishl C.1 C.2.1 dX2_tricksFrom_27 ?_
        refine lv_ior C.1 C.2.1 dX2_tricksFrom_28 ?_
        refine lv_topi (fun v3 e3 => ?_)
        replace h := le1_at e3 h
        refine lv_istore_n (lv' := [(2, .int v3), (0, .ref (E.2.1 a0)), (1, .int x1), (3, .int x3)]) C.1 C.2.1 dX2_tricksFrom_29 rfl hl (by decide) rfl (fun ls hl => ?_)
        exact w_X2_tricksFrom_30 C (f_X2_tricksFrom_4 a0 k) a0 ha0 ih x1 v3 x3 S h _ _ _ hR (lv_sub hl [1, 2, 0, 3] rfl)
def f_X2_tricksFrom (a0 : Nat) (x1 : Int32) (S : Hp) : Option (Int32 × Hp) :=
  f_X2_tricksFrom_4 a0 5000 x1 (0 : Int32) (0 : Int32) S
set_option maxHeartbeats 4000000 in
set_option maxRecDepth 100000 in
theorem c_X2_tricksFrom (l : Launch) (E : Ev) (a0 : Nat) (x1 : Int32) (ha0 : a0 ∈ yH.1 ∧ yH.2.1 a0 = (1, 2)) (S : Hp) (r : (Int32 × Hp)) (h : f_X2_tricksFrom a0 x1 S = some r) : ho_M l yH E yX2_tricksFrom cX2_tricksFrom 4 (some .int) 0 [.ref (E.2.1 a0), .int x1] S (some (.int r.1), r.2) := by
  refine ho_in (by decide) (Nat.le_of_ble_eq_true rfl) ?_
  intro p e s m args below meth c C hR ls hl
  have C : ho_I p s m args meth c RX2 cX2_tricksFrom 4 (some .int) := C
  have hl : lv_has ls 4 [(0, .ref (E.2.1 a0)), (1, .int x1)] := hl
  unfold f_X2_tricksFrom at h
  refine lv_iconst (v := (0 : Int32)) C.1 C.2.1 dX2_tricksFrom_0 (by decide) ?_
  refine lv_istore_n (lv' := [(2, .int (0 : Int32)), (0, .ref (E.2.1 a0)), (1, .int x1)]) C.1 C.2.1 dX2_tricksFrom_1 rfl hl (by decide) rfl (fun ls hl => ?_)
  refine lv_iconst (v := (0 : Int32)) C.1 C.2.1 dX2_tricksFrom_2 (by decide) ?_
  refine lv_istore_n (lv' := [(3, .int (0 : Int32)), (2, .int (0 : Int32)), (0, .ref (E.2.1 a0)), (1, .int x1)]) C.1 C.2.1 dX2_tricksFrom_3 rfl hl (by decide) rfl (fun ls hl => ?_)
  exact w_X2_tricksFrom_4 C a0 ha0 5000 x1 (0 : Int32) (0 : Int32) S h _ _ _ hR (lv_sub hl [2, 3, 1, 0] rfl)
theorem dX10_readWord_0 : decode cX10_readWord 0 = .ok (.aload_n 0, 1) := by decide +kernel
theorem dX10_readWord_1 : decode cX10_readWord 1 = .ok (.iconst 1, 1) := by decide +kernel
theorem dX10_readWord_2 : decode cX10_readWord 2 = .ok (.putfield 25, 3) := by decide +kernel
theorem dX10_readWord_5 : decode cX10_readWord 5 = .ok (.aload_n 0, 1) := by decide +kernel
theorem dX10_readWord_6 : decode cX10_readWord 6 = .ok (.iconst 0, 1) := by decide +kernel
theorem dX10_readWord_7 : decode cX10_readWord 7 = .ok (.putfield 34, 3) := by decide +kernel
theorem dX10_readWord_10 : decode cX10_readWord 10 = .ok (.aload_n 0, 1) := by decide +kernel
theorem dX10_readWord_11 : decode cX10_readWord 11 = .ok (.getfield 40, 3) := by decide +kernel
theorem dX10_readWord_14 : decode cX10_readWord 14 = .ok (.aload_n 0, 1) := by decide +kernel
theorem dX10_readWord_15 : decode cX10_readWord 15 = .ok (.getfield 15, 3) := by decide +kernel
theorem dX10_readWord_18 : decode cX10_readWord 18 = .ok (.if_icmp .ge 84, 3) := by decide +kernel
theorem dX10_readWord_21 : decode cX10_readWord 21 = .ok (.aload_n 0, 1) := by decide +kernel
theorem dX10_readWord_22 : decode cX10_readWord 22 = .ok (.getfield 9, 3) := by decide +kernel
theorem dX10_readWord_25 : decode cX10_readWord 25 = .ok (.aload_n 0, 1) := by decide +kernel
theorem dX10_readWord_26 : decode cX10_readWord 26 = .ok (.getfield 40, 3) := by decide +kernel
theorem dX10_readWord_29 : decode cX10_readWord 29 = .ok (.baload, 1) := by decide +kernel
theorem dX10_readWord_30 : decode cX10_readWord 30 = .ok (.bipush 97, 2) := by decide +kernel
theorem dX10_readWord_32 : decode cX10_readWord 32 = .ok (.if_icmp .lt 70, 3) := by decide +kernel
theorem dX10_readWord_35 : decode cX10_readWord 35 = .ok (.aload_n 0, 1) := by decide +kernel
theorem dX10_readWord_36 : decode cX10_readWord 36 = .ok (.getfield 9, 3) := by decide +kernel
theorem dX10_readWord_39 : decode cX10_readWord 39 = .ok (.aload_n 0, 1) := by decide +kernel
theorem dX10_readWord_40 : decode cX10_readWord 40 = .ok (.getfield 40, 3) := by decide +kernel
theorem dX10_readWord_43 : decode cX10_readWord 43 = .ok (.baload, 1) := by decide +kernel
theorem dX10_readWord_44 : decode cX10_readWord 44 = .ok (.bipush 122, 2) := by decide +kernel
theorem dX10_readWord_46 : decode cX10_readWord 46 = .ok (.if_icmp .gt 56, 3) := by decide +kernel
theorem dX10_readWord_49 : decode cX10_readWord 49 = .ok (.aload_n 0, 1) := by decide +kernel
theorem dX10_readWord_50 : decode cX10_readWord 50 = .ok (.getfield 40, 3) := by decide +kernel
theorem dX10_readWord_53 : decode cX10_readWord 53 = .ok (.aload_n 0, 1) := by decide +kernel
theorem dX10_readWord_54 : decode cX10_readWord 54 = .ok (.getfield 28, 3) := by decide +kernel
theorem dX10_readWord_57 : decode cX10_readWord 57 = .ok (.isub, 1) := by decide +kernel
theorem dX10_readWord_58 : decode cX10_readWord 58 = .ok (.bipush 6, 2) := by decide +kernel
theorem dX10_readWord_60 : decode cX10_readWord 60 = .ok (.if_icmp .ge 29, 3) := by decide +kernel
theorem dX10_readWord_63 : decode cX10_readWord 63 = .ok (.aload_n 0, 1) := by decide +kernel
theorem dX10_readWord_64 : decode cX10_readWord 64 = .ok (.aload_n 0, 1) := by decide +kernel
theorem dX10_readWord_65 : decode cX10_readWord 65 = .ok (.getfield 34, 3) := by decide +kernel
theorem dX10_readWord_68 : decode cX10_readWord 68 = .ok (.bipush 27, 2) := by decide +kernel
theorem dX10_readWord_70 : decode cX10_readWord 70 = .ok (.imul, 1) := by decide +kernel
theorem dX10_readWord_71 : decode cX10_readWord 71 = .ok (.aload_n 0, 1) := by decide +kernel
theorem dX10_readWord_72 : decode cX10_readWord 72 = .ok (.getfield 9, 3) := by decide +kernel
theorem dX10_readWord_75 : decode cX10_readWord 75 = .ok (.aload_n 0, 1) := by decide +kernel
theorem dX10_readWord_76 : decode cX10_readWord 76 = .ok (.getfield 40, 3) := by decide +kernel
theorem dX10_readWord_79 : decode cX10_readWord 79 = .ok (.baload, 1) := by decide +kernel
theorem dX10_readWord_80 : decode cX10_readWord 80 = .ok (.iadd, 1) := by decide +kernel
theorem dX10_readWord_81 : decode cX10_readWord 81 = .ok (.bipush 97, 2) := by decide +kernel
theorem dX10_readWord_83 : decode cX10_readWord 83 = .ok (.isub, 1) := by decide +kernel
theorem dX10_readWord_84 : decode cX10_readWord 84 = .ok (.iconst 1, 1) := by decide +kernel
theorem dX10_readWord_85 : decode cX10_readWord 85 = .ok (.iadd, 1) := by decide +kernel
theorem dX10_readWord_86 : decode cX10_readWord 86 = .ok (.putfield 34, 3) := by decide +kernel
theorem dX10_readWord_89 : decode cX10_readWord 89 = .ok (.aload_n 0, 1) := by decide +kernel
theorem dX10_readWord_90 : decode cX10_readWord 90 = .ok (.dup, 1) := by decide +kernel
theorem dX10_readWord_91 : decode cX10_readWord 91 = .ok (.getfield 40, 3) := by decide +kernel
theorem dX10_readWord_94 : decode cX10_readWord 94 = .ok (.iconst 1, 1) := by decide +kernel
theorem dX10_readWord_95 : decode cX10_readWord 95 = .ok (.iadd, 1) := by decide +kernel
theorem dX10_readWord_96 : decode cX10_readWord 96 = .ok (.putfield 40, 3) := by decide +kernel
theorem dX10_readWord_99 : decode cX10_readWord 99 = .ok (.goto (-89), 3) := by decide +kernel
theorem dX10_readWord_102 : decode cX10_readWord 102 = .ok (.aload_n 0, 1) := by decide +kernel
theorem dX10_readWord_103 : decode cX10_readWord 103 = .ok (.getfield 40, 3) := by decide +kernel
theorem dX10_readWord_106 : decode cX10_readWord 106 = .ok (.aload_n 0, 1) := by decide +kernel
theorem dX10_readWord_107 : decode cX10_readWord 107 = .ok (.getfield 28, 3) := by decide +kernel
theorem dX10_readWord_110 : decode cX10_readWord 110 = .ok (.isub, 1) := by decide +kernel
theorem dX10_readWord_111 : decode cX10_readWord 111 = .ok (.istore_n 1, 1) := by decide +kernel
theorem dX10_readWord_112 : decode cX10_readWord 112 = .ok (.iload_n 1, 1) := by decide +kernel
theorem dX10_readWord_113 : decode cX10_readWord 113 = .ok (.bipush 6, 2) := by decide +kernel
theorem dX10_readWord_115 : decode cX10_readWord 115 = .ok (.if_icmp .ge 20, 3) := by decide +kernel
theorem dX10_readWord_118 : decode cX10_readWord 118 = .ok (.aload_n 0, 1) := by decide +kernel
theorem dX10_readWord_119 : decode cX10_readWord 119 = .ok (.dup, 1) := by decide +kernel
theorem dX10_readWord_120 : decode cX10_readWord 120 = .ok (.getfield 34, 3) := by decide +kernel
theorem dX10_readWord_123 : decode cX10_readWord 123 = .ok (.bipush 27, 2) := by decide +kernel
theorem dX10_readWord_125 : decode cX10_readWord 125 = .ok (.imul, 1) := by decide +kernel
theorem dX10_readWord_126 : decode cX10_readWord 126 = .ok (.putfield 34, 3) := by decide +kernel
theorem dX10_readWord_129 : decode cX10_readWord 129 = .ok (.iinc 1 1, 3) := by decide +kernel
theorem dX10_readWord_132 : decode cX10_readWord 132 = .ok (.goto (-20), 3) := by decide +kernel
theorem dX10_readWord_135 : decode cX10_readWord 135 = .ok (.aload_n 0, 1) := by decide +kernel
theorem dX10_readWord_136 : decode cX10_readWord 136 = .ok (.iconst (-1), 1) := by decide +kernel
theorem dX10_readWord_137 : decode cX10_readWord 137 = .ok (.putfield 31, 3) := by decide +kernel
theorem dX10_readWord_140 : decode cX10_readWord 140 = .ok (.iconst 0, 1) := by decide +kernel
theorem dX10_readWord_141 : decode cX10_readWord 141 = .ok (.istore_n 1, 1) := by decide +kernel
theorem dX10_readWord_142 : decode cX10_readWord 142 = .ok (.iload_n 1, 1) := by decide +kernel
theorem dX10_readWord_143 : decode cX10_readWord 143 = .ok (.bipush 35, 2) := by decide +kernel
theorem dX10_readWord_145 : decode cX10_readWord 145 = .ok (.if_icmp .ge 41, 3) := by decide +kernel
theorem dX10_readWord_148 : decode cX10_readWord 148 = .ok (.aload_n 0, 1) := by decide +kernel
theorem dX10_readWord_149 : decode cX10_readWord 149 = .ok (.getfield 40, 3) := by decide +kernel
theorem dX10_readWord_152 : decode cX10_readWord 152 = .ok (.aload_n 0, 1) := by decide +kernel
theorem dX10_readWord_153 : decode cX10_readWord 153 = .ok (.getfield 28, 3) := by decide +kernel
theorem dX10_readWord_156 : decode cX10_readWord 156 = .ok (.isub, 1) := by decide +kernel
theorem dX10_readWord_157 : decode cX10_readWord 157 = .ok (.bipush 6, 2) := by decide +kernel
theorem dX10_readWord_159 : decode cX10_readWord 159 = .ok (.if_icmp .gt 27, 3) := by decide +kernel
theorem dX10_readWord_162 : decode cX10_readWord 162 = .ok (.aload_n 0, 1) := by decide +kernel
theorem dX10_readWord_163 : decode cX10_readWord 163 = .ok (.getfield 43, 3) := by decide +kernel
theorem dX10_readWord_166 : decode cX10_readWord 166 = .ok (.iload_n 1, 1) := by decide +kernel
theorem dX10_readWord_167 : decode cX10_readWord 167 = .ok (.iaload, 1) := by decide +kernel
theorem dX10_readWord_168 : decode cX10_readWord 168 = .ok (.aload_n 0, 1) := by decide +kernel
theorem dX10_readWord_169 : decode cX10_readWord 169 = .ok (.getfield 34, 3) := by decide +kernel
theorem dX10_readWord_172 : decode cX10_readWord 172 = .ok (.if_icmp .ne 8, 3) := by decide +kernel
theorem dX10_readWord_175 : decode cX10_readWord 175 = .ok (.aload_n 0, 1) := by decide +kernel
theorem dX10_readWord_176 : decode cX10_readWord 176 = .ok (.iload_n 1, 1) := by decide +kernel
theorem dX10_readWord_177 : decode cX10_readWord 177 = .ok (.putfield 31, 3) := by decide +kernel
theorem dX10_readWord_180 : decode cX10_readWord 180 = .ok (.iinc 1 1, 3) := by decide +kernel
theorem dX10_readWord_183 : decode cX10_readWord 183 = .ok (.goto (-41), 3) := by decide +kernel
theorem dX10_readWord_186 : decode cX10_readWord 186 = .ok (.return_, 1) := by decide +kernel
def f_X10_readWord_180 (K142 : Int32 → Hp → Option Hp) (x1 : Int32) (S : Hp) : Option Hp :=
  le1 (x1 + (1 : Int32)) (fun v1 => K142 v1 S)
set_option maxHeartbeats 4000000 in
set_option maxRecDepth 100000 in
theorem w_X10_readWord_180 {p : Program} {l : Launch} {e : Env} {s : State} {m : MethodId} {args : Array Value} {below : List Frame} {meth : Method} {c : Code} {E : Ev} {S0 : Hp} {r : Hp} (C : ho_I p s m args meth c RX10 cX10_readWord 2 none) (K142 : Int32 → Hp → Option Hp) (hK142 : ∀ (y1 : Int32) (S : Hp), K142 y1 S = some r → ho_G p l e s m args below meth c yH E S0 0 2 (none, r) 142 [(0, .ref (E.2.1 10)), (1, .int y1)] [] S) :
    ∀ (x1 : Int32) (S : Hp), f_X10_readWord_180 K142 x1 S = some r → ho_G p l e s m args below meth c yH E S0 0 2 (none, r) 180 [(0, .ref (E.2.1 10)), (1, .int x1)] [] S := by
  intro x1 S h H locs ls hR hl
  unfold f_X10_readWord_180 at h
  obtain ⟨v1, e1, h⟩ := le1_ok h
  refine lv_iinc (v := v1) (lv' := [(1, .int v1), (0, .ref (E.2.1 10))]) C.1 C.2.1 dX10_readWord_180 hl (k := 1) rfl (by rw [e1]; rfl) (by decide) rfl (fun ls hl => ?_)
  refine lv_goto (tgt := 142) C.1 C.2.1 dX10_readWord_183 (by decide) ?_
  exact hK142 v1 S h _ _ _ hR (lv_sub hl [1, 0] rfl)
def f_X10_readWord_142 : Nat → Int32 → Hp → Option Hp
  | 0, _, _ => none
  | k + 1, x1, S => if (35 : Int32) ≤ x1 then some S else if (6 : Int32) < ((S.1 10 9) - (S.1 10 5)) then some S else ldI S 12 35 x1 (fun v1 => if v1 = (S.1 10 7) then le1 (ho_sI S 10 6 x1) (fun S2 => f_X10_readWord_180 (f_X10_readWord_142 k) x1 S2) else f_X10_readWord_180 (f_X10_readWord_142 k) x1 S)
set_option maxHeartbeats 4000000 in
set_option maxRecDepth 100000 in
theorem w_X10_readWord_142 {p : Program} {l : Launch} {e : Env} {s : State} {m : MethodId} {args : Array Value} {below : List Frame} {meth : Method} {c : Code} {E : Ev} {S0 : Hp} {r : Hp} (C : ho_I p s m args meth c RX10 cX10_readWord 2 none) :
    ∀ (k : Nat) (x1 : Int32) (S : Hp), f_X10_readWord_142 k x1 S = some r → ho_G p l e s m args below meth c yH E S0 0 2 (none, r) 142 [(0, .ref (E.2.1 10)), (1, .int x1)] [] S := by
  intro k
  induction k with
  | zero =>
    intro x1 S h
    exact absurd (show (none : Option Hp) = some r from h) (by simp)
  | succ k ih =>
    intro x1 S h H locs ls hR hl
    rw [f_X10_readWord_142] at h
    refine lv_iload_n C.1 C.2.1 dX10_readWord_142 rfl (lv_at hl 1 rfl) ?_
    refine lv_bipush (v := (35 : Int32)) C.1 C.2.1 dX10_readWord_143 (by decide) ?_
    refine lv_icmp_ge (tgt := 186) C.1 C.2.1 dX10_readWord_145 (by decide) (fun hc => ?_) (fun hc => ?_)
    · replace h := if_t h hc
      exact ho_vret C hR h dX10_readWord_186
    · replace h := if_f h hc
      refine lv_aload_n C.1 C.2.1 dX10_readWord_148 rfl (lv_at hl 0 rfl) ?_
      refine ho_getI C cf10 fH_RX10_40 hR aH_10 dX10_readWord_149 ?_
      refine lv_aload_n C.1 C.2.1 dX10_readWord_152 rfl (lv_at hl 0 rfl) ?_
      refine ho_getI C cf10 fH_RX10_28 hR aH_10 dX10_readWord_153 ?_
      refine lv_isub C.1 C.2.1 dX10_readWord_156 ?_
      refine lv_bipush (v := (6 : Int32)) C.1 C.2.1 dX10_readWord_157 (by decide) ?_
      refine lv_icmp_gt (tgt := 186) C.1 C.2.1 dX10_readWord_159 (by decide) (fun hc => ?_) (fun hc => ?_)
      · replace h := if_t h hc
        exact ho_vret C hR h dX10_readWord_186
      · replace h := if_f h hc
        refine lv_aload_n C.1 C.2.1 dX10_readWord_162 rfl (lv_at hl 0 rfl) ?_
        refine ho_getR (a' := 12) C cf10 fH_RX10_43 hR aH_10 rfl dX10_readWord_163 ?_
        refine lv_iload_n C.1 C.2.1 dX10_readWord_166 rfl (lv_at hl 1 rfl) ?_
        obtain ⟨v1, e1, hi1, h⟩ := ldI_ok h
        refine hr_ild C hR aH_12 hi1 e1 dX10_readWord_167 ?_
        refine lv_aload_n C.1 C.2.1 dX10_readWord_168 rfl (lv_at hl 0 rfl) ?_
        refine ho_getI C cf10 fH_RX10_34 hR aH_10 dX10_readWord_169 ?_
        refine lv_icmp_ne (tgt := 180) C.1 C.2.1 dX10_readWord_172 (by decide) (fun hc => ?_) (fun hc => ?_)
        · replace h := if_f h hc
          exact w_X10_readWord_180 C (f_X10_readWord_142 k) ih x1 S h _ _ _ hR (lv_sub hl [0, 1] rfl)
        · replace h := if_t h hc
          refine lv_aload_n C.1 C.2.1 dX10_readWord_175 rfl (lv_at hl 0 rfl) ?_
          refine lv_iload_n C.1 C.2.1 dX10_readWord_176 rfl (lv_at hl 1 rfl) ?_
          obtain ⟨S2, e2, h⟩ := le1_ok h
          refine hr_putI C cf10 fH_RX10_31 hR aH_10 e2 dX10_readWord_177 (fun H locs hR => ?_)
          exact w_X10_readWord_180 C (f_X10_readWord_142 k) ih x1 S2 h _ _ _ hR (lv_sub hl [0, 1] rfl)
def f_X10_readWord_112 : Nat → Int32 → Hp → Option Hp
  | 0, _, _ => none
  | k + 1, x1, S => if (6 : Int32) ≤ x1 then le1 (ho_sI S 10 6 (-1 : Int32)) (fun S1 => f_X10_readWord_142 5000 (0 : Int32) S1) else le1 (ho_sI S 10 7 ((S.1 10 7) * (27 : Int32))) (fun S2 => le1 (x1 + (1 : Int32)) (fun v3 => f_X10_readWord_112 k v3 S2))
set_option maxHeartbeats 4000000 in
set_option maxRecDepth 100000 in
theorem w_X10_readWord_112 {p : Program} {l : Launch} {e : Env} {s : State} {m : MethodId} {args : Array Value} {below : List Frame} {meth : Method} {c : Code} {E : Ev} {S0 : Hp} {r : Hp} (C : ho_I p s m args meth c RX10 cX10_readWord 2 none) :
    ∀ (k : Nat) (x1 : Int32) (S : Hp), f_X10_readWord_112 k x1 S = some r → ho_G p l e s m args below meth c yH E S0 0 2 (none, r) 112 [(0, .ref (E.2.1 10)), (1, .int x1)] [] S := by
  intro k
  induction k with
  | zero =>
    intro x1 S h
    exact absurd (show (none : Option Hp) = some r from h) (by simp)
  | succ k ih =>
    intro x1 S h H locs ls hR hl
    rw [f_X10_readWord_112] at h
    refine lv_iload_n C.1 C.2.1 dX10_readWord_112 rfl (lv_at hl 1 rfl) ?_
    refine lv_bipush (v := (6 : Int32)) C.1 C.2.1 dX10_readWord_113 (by decide) ?_
    refine lv_icmp_ge (tgt := 135) C.1 C.2.1 dX10_readWord_115 (by decide) (fun hc => ?_) (fun hc => ?_)
    · replace h := if_t h hc
      refine lv_aload_n C.1 C.2.1 dX10_readWord_135 rfl (lv_at hl 0 rfl) ?_
      refine lv_iconst (v := (-1 : Int32)) C.1 C.2.1 dX10_readWord_136 (by decide) ?_
      obtain ⟨S1, e1, h⟩ := le1_ok h
      refine hr_putI C cf10 fH_RX10_31 hR aH_10 e1 dX10_readWord_137 (fun H locs hR => ?_)
      refine lv_iconst (v := (0 : Int32)) C.1 C.2.1 dX10_readWord_140 (by decide) ?_
      refine lv_istore_n (lv' := [(1, .int (0 : Int32)), (0, .ref (E.2.1 10))]) C.1 C.2.1 dX10_readWord_141 rfl hl (by decide) rfl (fun ls hl => ?_)
      exact w_X10_readWord_142 C 5000 (0 : Int32) S1 h _ _ _ hR (lv_sub hl [1, 0] rfl)
    · replace h := if_f h hc
      refine lv_aload_n C.1 C.2.1 dX10_readWord_118 rfl (lv_at hl 0 rfl) ?_
      refine lv_dup C.1 C.2.1 dX10_readWord_119 rfl ?_
      refine ho_getI C cf10 fH_RX10_34 hR aH_10 dX10_readWord_120 ?_
      refine lv_bipush (v := (27 : Int32)) C.1 C.2.1 dX10_readWord_123 (by decide) ?_
      refine lv_imul C.1 C.2.1 dX10_readWord_125 ?_
      obtain ⟨S2, e2, h⟩ := le1_ok h
      refine hr_putI C cf10 fH_RX10_34 hR aH_10 e2 dX10_readWord_126 (fun H locs hR => ?_)
      obtain ⟨v3, e3, h⟩ := le1_ok h
      refine lv_iinc (v := v3) (lv' := [(1, .int v3), (0, .ref (E.2.1 10))]) C.1 C.2.1 dX10_readWord_129 hl (k := 1) rfl (by rw [e3]; rfl) (by decide) rfl (fun ls hl => ?_)
      refine lv_goto (tgt := 112) C.1 C.2.1 dX10_readWord_132 (by decide) ?_
      exact ih v3 S2 h _ _ _ hR (lv_sub hl [1, 0] rfl)
def f_X10_readWord_102 (S : Hp) : Option Hp :=
  le1 ((S.1 10 9) - (S.1 10 5)) (fun v1 => f_X10_readWord_112 5000 v1 S)
set_option maxHeartbeats 4000000 in
set_option maxRecDepth 100000 in
theorem w_X10_readWord_102 {p : Program} {l : Launch} {e : Env} {s : State} {m : MethodId} {args : Array Value} {below : List Frame} {meth : Method} {c : Code} {E : Ev} {S0 : Hp} {r : Hp} (C : ho_I p s m args meth c RX10 cX10_readWord 2 none) :
    ∀ (S : Hp), f_X10_readWord_102 S = some r → ho_G p l e s m args below meth c yH E S0 0 2 (none, r) 102 [(0, .ref (E.2.1 10))] [] S := by
  intro S h H locs ls hR hl
  unfold f_X10_readWord_102 at h
  refine lv_aload_n C.1 C.2.1 dX10_readWord_102 rfl (lv_at hl 0 rfl) ?_
  refine ho_getI C cf10 fH_RX10_40 hR aH_10 dX10_readWord_103 ?_
  refine lv_aload_n C.1 C.2.1 dX10_readWord_106 rfl (lv_at hl 0 rfl) ?_
  refine ho_getI C cf10 fH_RX10_28 hR aH_10 dX10_readWord_107 ?_
  refine lv_isub C.1 C.2.1 dX10_readWord_110 ?_
  refine lv_topi (fun v1 e1 => ?_)
  replace h := le1_at e1 h
  refine lv_istore_n (lv' := [(1, .int v1), (0, .ref (E.2.1 10))]) C.1 C.2.1 dX10_readWord_111 rfl hl (by decide) rfl (fun ls hl => ?_)
  exact w_X10_readWord_112 C 5000 v1 S h _ _ _ hR (lv_sub hl [1, 0] rfl)
def f_X10_readWord_89 (K10 : Hp → Option Hp) (S : Hp) : Option Hp :=
  le1 (ho_sI S 10 9 ((S.1 10 9) + (1 : Int32))) (fun S1 => K10 S1)
set_option maxHeartbeats 4000000 in
set_option maxRecDepth 100000 in
theorem w_X10_readWord_89 {p : Program} {l : Launch} {e : Env} {s : State} {m : MethodId} {args : Array Value} {below : List Frame} {meth : Method} {c : Code} {E : Ev} {S0 : Hp} {r : Hp} (C : ho_I p s m args meth c RX10 cX10_readWord 2 none) (K10 : Hp → Option Hp) (hK10 : ∀ (S : Hp), K10 S = some r → ho_G p l e s m args below meth c yH E S0 0 2 (none, r) 10 [(0, .ref (E.2.1 10))] [] S) :
    ∀ (S : Hp), f_X10_readWord_89 K10 S = some r → ho_G p l e s m args below meth c yH E S0 0 2 (none, r) 89 [(0, .ref (E.2.1 10))] [] S := by
  intro S h H locs ls hR hl
  unfold f_X10_readWord_89 at h
  refine lv_aload_n C.1 C.2.1 dX10_readWord_89 rfl (lv_at hl 0 rfl) ?_
  refine lv_dup C.1 C.2.1 dX10_readWord_90 rfl ?_
  refine ho_getI C cf10 fH_RX10_40 hR aH_10 dX10_readWord_91 ?_
  refine lv_iconst (v := (1 : Int32)) C.1 C.2.1 dX10_readWord_94 (by decide) ?_
  refine lv_iadd C.1 C.2.1 dX10_readWord_95 ?_
  obtain ⟨S1, e1, h⟩ := le1_ok h
  refine hr_putI C cf10 fH_RX10_40 hR aH_10 e1 dX10_readWord_96 (fun H locs hR => ?_)
  refine lv_goto (tgt := 10) C.1 C.2.1 dX10_readWord_99 (by decide) ?_
  exact hK10 S1 h _ _ _ hR (lv_sub hl [0] rfl)
def f_X10_readWord_10 : Nat → Hp → Option Hp
  | 0, _ => none
  | k + 1, S => if (S.1 10 1) ≤ (S.1 10 9) then f_X10_readWord_102 S else ldI S 11 1600 (S.1 10 9) (fun v1 => if v1 < (97 : Int32) then f_X10_readWord_102 S else ldI S 11 1600 (S.1 10 9) (fun v2 => if (122 : Int32) < v2 then f_X10_readWord_102 S else if (6 : Int32) ≤ ((S.1 10 9) - (S.1 10 5)) then f_X10_readWord_89 (f_X10_readWord_10 k) S else ldI S 11 1600 (S.1 10 9) (fun v3 => le1 (ho_sI S 10 7 (((((S.1 10 7) * (27 : Int32)) + v3) - (97 : Int32)) + (1 : Int32))) (fun S4 => f_X10_readWord_89 (f_X10_readWord_10 k) S4))))
set_option maxHeartbeats 4000000 in
set_option maxRecDepth 100000 in
theorem w_X10_readWord_10 {p : Program} {l : Launch} {e : Env} {s : State} {m : MethodId} {args : Array Value} {below : List Frame} {meth : Method} {c : Code} {E : Ev} {S0 : Hp} {r : Hp} (C : ho_I p s m args meth c RX10 cX10_readWord 2 none) :
    ∀ (k : Nat) (S : Hp), f_X10_readWord_10 k S = some r → ho_G p l e s m args below meth c yH E S0 0 2 (none, r) 10 [(0, .ref (E.2.1 10))] [] S := by
  intro k
  induction k with
  | zero =>
    intro S h
    exact absurd (show (none : Option Hp) = some r from h) (by simp)
  | succ k ih =>
    intro S h H locs ls hR hl
    rw [f_X10_readWord_10] at h
    refine lv_aload_n C.1 C.2.1 dX10_readWord_10 rfl (lv_at hl 0 rfl) ?_
    refine ho_getI C cf10 fH_RX10_40 hR aH_10 dX10_readWord_11 ?_
    refine lv_aload_n C.1 C.2.1 dX10_readWord_14 rfl (lv_at hl 0 rfl) ?_
    refine ho_getI C cf10 fH_RX10_15 hR aH_10 dX10_readWord_15 ?_
    refine lv_icmp_ge (tgt := 102) C.1 C.2.1 dX10_readWord_18 (by decide) (fun hc => ?_) (fun hc => ?_)
    · replace h := if_t h hc
      exact w_X10_readWord_102 C S h _ _ _ hR (lv_sub hl [0] rfl)
    · replace h := if_f h hc
      refine lv_aload_n C.1 C.2.1 dX10_readWord_21 rfl (lv_at hl 0 rfl) ?_
      refine ho_getR (a' := 11) C cf10 fH_RX10_9 hR aH_10 rfl dX10_readWord_22 ?_
      refine lv_aload_n C.1 C.2.1 dX10_readWord_25 rfl (lv_at hl 0 rfl) ?_
      refine ho_getI C cf10 fH_RX10_40 hR aH_10 dX10_readWord_26 ?_
      obtain ⟨v1, e1, hi1, h⟩ := ldI_ok h
      refine hr_bld C hR aH_11 hi1 e1 dX10_readWord_29 ?_
      refine lv_bipush (v := (97 : Int32)) C.1 C.2.1 dX10_readWord_30 (by decide) ?_
      refine lv_icmp_lt (tgt := 102) C.1 C.2.1 dX10_readWord_32 (by decide) (fun hc => ?_) (fun hc => ?_)
      · replace h := if_t h hc
        exact w_X10_readWord_102 C S h _ _ _ hR (lv_sub hl [0] rfl)
      · replace h := if_f h hc
        refine lv_aload_n C.1 C.2.1 dX10_readWord_35 rfl (lv_at hl 0 rfl) ?_
        refine ho_getR (a' := 11) C cf10 fH_RX10_9 hR aH_10 rfl dX10_readWord_36 ?_
        refine lv_aload_n C.1 C.2.1 dX10_readWord_39 rfl (lv_at hl 0 rfl) ?_
        refine ho_getI C cf10 fH_RX10_40 hR aH_10 dX10_readWord_40 ?_
        obtain ⟨v2, e2, hi2, h⟩ := ldI_ok h
        refine hr_bld C hR aH_11 hi2 e2 dX10_readWord_43 ?_
        refine lv_bipush (v := (122 : Int32)) C.1 C.2.1 dX10_readWord_44 (by decide) ?_
        refine lv_icmp_gt (tgt := 102) C.1 C.2.1 dX10_readWord_46 (by decide) (fun hc => ?_) (fun hc => ?_)
        · replace h := if_t h hc
          exact w_X10_readWord_102 C S h _ _ _ hR (lv_sub hl [0] rfl)
        · replace h := if_f h hc
          refine lv_aload_n C.1 C.2.1 dX10_readWord_49 rfl (lv_at hl 0 rfl) ?_
          refine ho_getI C cf10 fH_RX10_40 hR aH_10 dX10_readWord_50 ?_
          refine lv_aload_n C.1 C.2.1 dX10_readWord_53 rfl (lv_at hl 0 rfl) ?_
          refine ho_getI C cf10 fH_RX10_28 hR aH_10 dX10_readWord_54 ?_
          refine lv_isub C.1 C.2.1 dX10_readWord_57 ?_
          refine lv_bipush (v := (6 : Int32)) C.1 C.2.1 dX10_readWord_58 (by decide) ?_
          refine lv_icmp_ge (tgt := 89) C.1 C.2.1 dX10_readWord_60 (by decide) (fun hc => ?_) (fun hc => ?_)
          · replace h := if_t h hc
            exact w_X10_readWord_89 C (f_X10_readWord_10 k) ih S h _ _ _ hR (lv_sub hl [0] rfl)
          · replace h := if_f h hc
            refine lv_aload_n C.1 C.2.1 dX10_readWord_63 rfl (lv_at hl 0 rfl) ?_
            refine lv_aload_n C.1 C.2.1 dX10_readWord_64 rfl (lv_at hl 0 rfl) ?_
            refine ho_getI C cf10 fH_RX10_34 hR aH_10 dX10_readWord_65 ?_
            refine lv_bipush (v := (27 : Int32)) C.1 C.2.1 dX10_readWord_68 (by decide) ?_
            refine lv_imul C.1 C.2.1 dX10_readWord_70 ?_
            refine lv_aload_n C.1 C.2.1 dX10_readWord_71 rfl (lv_at hl 0 rfl) ?_
            refine ho_getR (a' := 11) C cf10 fH_RX10_9 hR aH_10 rfl dX10_readWord_72 ?_
            refine lv_aload_n C.1 C.2.1 dX10_readWord_75 rfl (lv_at hl 0 rfl) ?_
            refine ho_getI C cf10 fH_RX10_40 hR aH_10 dX10_readWord_76 ?_
            obtain ⟨v3, e3, hi3, h⟩ := ldI_ok h
            refine hr_bld C hR aH_11 hi3 e3 dX10_readWord_79 ?_
            refine lv_iadd C.1 C.2.1 dX10_readWord_80 ?_
            refine lv_bipush (v := (97 : Int32)) C.1 C.2.1 dX10_readWord_81 (by decide) ?_
            refine lv_isub C.1 C.2.1 dX10_readWord_83 ?_
            refine lv_iconst (v := (1 : Int32)) C.1 C.2.1 dX10_readWord_84 (by decide) ?_
            refine lv_iadd C.1 C.2.1 dX10_readWord_85 ?_
            obtain ⟨S4, e4, h⟩ := le1_ok h
            refine hr_putI C cf10 fH_RX10_34 hR aH_10 e4 dX10_readWord_86 (fun H locs hR => ?_)
            exact w_X10_readWord_89 C (f_X10_readWord_10 k) ih S4 h _ _ _ hR (lv_sub hl [0] rfl)
def f_X10_readWord (S : Hp) : Option Hp :=
  le1 (ho_sI S 10 4 (1 : Int32)) (fun S1 => le1 (ho_sI S1 10 7 (0 : Int32)) (fun S2 => f_X10_readWord_10 5000 S2))
set_option maxHeartbeats 4000000 in
set_option maxRecDepth 100000 in
theorem c_X10_readWord (l : Launch) (E : Ev) (S : Hp) (r : Hp) (h : f_X10_readWord S = some r) : ho_M l yH E yX10_readWord cX10_readWord 2 none 0 [.ref (E.2.1 10)] S (none, r) := by
  refine ho_in (by decide) (Nat.le_of_ble_eq_true rfl) ?_
  intro p e s m args below meth c C hR ls hl
  have C : ho_I p s m args meth c RX10 cX10_readWord 2 none := C
  have hl : lv_has ls 2 [(0, .ref (E.2.1 10))] := hl
  unfold f_X10_readWord at h
  refine lv_aload_n C.1 C.2.1 dX10_readWord_0 rfl (lv_at hl 0 rfl) ?_
  refine lv_iconst (v := (1 : Int32)) C.1 C.2.1 dX10_readWord_1 (by decide) ?_
  obtain ⟨S1, e1, h⟩ := le1_ok h
  refine hr_putI C cf10 fH_RX10_25 hR aH_10 e1 dX10_readWord_2 (fun H locs hR => ?_)
  refine lv_aload_n C.1 C.2.1 dX10_readWord_5 rfl (lv_at hl 0 rfl) ?_
  refine lv_iconst (v := (0 : Int32)) C.1 C.2.1 dX10_readWord_6 (by decide) ?_
  obtain ⟨S2, e2, h⟩ := le1_ok h
  refine hr_putI C cf10 fH_RX10_34 hR aH_10 e2 dX10_readWord_7 (fun H locs hR => ?_)
  exact w_X10_readWord_10 C 5000 S2 h _ _ _ hR (lv_sub hl [0] rfl)
theorem dX10_readDigits_0 : decode cX10_readDigits 0 = .ok (.aload_n 0, 1) := by decide +kernel
theorem dX10_readDigits_1 : decode cX10_readDigits 1 = .ok (.iconst 2, 1) := by decide +kernel
theorem dX10_readDigits_2 : decode cX10_readDigits 2 = .ok (.putfield 25, 3) := by decide +kernel
theorem dX10_readDigits_5 : decode cX10_readDigits 5 = .ok (.aload_n 0, 1) := by decide +kernel
theorem dX10_readDigits_6 : decode cX10_readDigits 6 = .ok (.iconst 0, 1) := by decide +kernel
theorem dX10_readDigits_7 : decode cX10_readDigits 7 = .ok (.putfield 31, 3) := by decide +kernel
theorem dX10_readDigits_10 : decode cX10_readDigits 10 = .ok (.aload_n 0, 1) := by decide +kernel
theorem dX10_readDigits_11 : decode cX10_readDigits 11 = .ok (.getfield 40, 3) := by decide +kernel
theorem dX10_readDigits_14 : decode cX10_readDigits 14 = .ok (.aload_n 0, 1) := by decide +kernel
theorem dX10_readDigits_15 : decode cX10_readDigits 15 = .ok (.getfield 15, 3) := by decide +kernel
theorem dX10_readDigits_18 : decode cX10_readDigits 18 = .ok (.if_icmp .ge 81, 3) := by decide +kernel
theorem dX10_readDigits_21 : decode cX10_readDigits 21 = .ok (.aload_n 0, 1) := by decide +kernel
theorem dX10_readDigits_22 : decode cX10_readDigits 22 = .ok (.getfield 9, 3) := by decide +kernel
theorem dX10_readDigits_25 : decode cX10_readDigits 25 = .ok (.aload_n 0, 1) := by decide +kernel
theorem dX10_readDigits_26 : decode cX10_readDigits 26 = .ok (.getfield 40, 3) := by decide +kernel
theorem dX10_readDigits_29 : decode cX10_readDigits 29 = .ok (.baload, 1) := by decide +kernel
theorem dX10_readDigits_30 : decode cX10_readDigits 30 = .ok (.bipush 48, 2) := by decide +kernel
theorem dX10_readDigits_32 : decode cX10_readDigits 32 = .ok (.if_icmp .lt 67, 3) := by decide +kernel
theorem dX10_readDigits_35 : decode cX10_readDigits 35 = .ok (.aload_n 0, 1) := by decide +kernel
theorem dX10_readDigits_36 : decode cX10_readDigits 36 = .ok (.getfield 9, 3) := by decide +kernel
theorem dX10_readDigits_39 : decode cX10_readDigits 39 = .ok (.aload_n 0, 1) := by decide +kernel
theorem dX10_readDigits_40 : decode cX10_readDigits 40 = .ok (.getfield 40, 3) := by decide +kernel
theorem dX10_readDigits_43 : decode cX10_readDigits 43 = .ok (.baload, 1) := by decide +kernel
theorem dX10_readDigits_44 : decode cX10_readDigits 44 = .ok (.bipush 57, 2) := by decide +kernel
theorem dX10_readDigits_46 : decode cX10_readDigits 46 = .ok (.if_icmp .gt 53, 3) := by decide +kernel
theorem dX10_readDigits_49 : decode cX10_readDigits 49 = .ok (.aload_n 0, 1) := by decide +kernel
theorem dX10_readDigits_50 : decode cX10_readDigits 50 = .ok (.getfield 40, 3) := by decide +kernel
theorem dX10_readDigits_53 : decode cX10_readDigits 53 = .ok (.aload_n 0, 1) := by decide +kernel
theorem dX10_readDigits_54 : decode cX10_readDigits 54 = .ok (.getfield 28, 3) := by decide +kernel
theorem dX10_readDigits_57 : decode cX10_readDigits 57 = .ok (.isub, 1) := by decide +kernel
theorem dX10_readDigits_58 : decode cX10_readDigits 58 = .ok (.iconst 4, 1) := by decide +kernel
theorem dX10_readDigits_59 : decode cX10_readDigits 59 = .ok (.if_icmp .ge 27, 3) := by decide +kernel
theorem dX10_readDigits_62 : decode cX10_readDigits 62 = .ok (.aload_n 0, 1) := by decide +kernel
theorem dX10_readDigits_63 : decode cX10_readDigits 63 = .ok (.aload_n 0, 1) := by decide +kernel
theorem dX10_readDigits_64 : decode cX10_readDigits 64 = .ok (.getfield 31, 3) := by decide +kernel
theorem dX10_readDigits_67 : decode cX10_readDigits 67 = .ok (.bipush 10, 2) := by decide +kernel
theorem dX10_readDigits_69 : decode cX10_readDigits 69 = .ok (.imul, 1) := by decide +kernel
theorem dX10_readDigits_70 : decode cX10_readDigits 70 = .ok (.aload_n 0, 1) := by decide +kernel
theorem dX10_readDigits_71 : decode cX10_readDigits 71 = .ok (.getfield 9, 3) := by decide +kernel
theorem dX10_readDigits_74 : decode cX10_readDigits 74 = .ok (.aload_n 0, 1) := by decide +kernel
theorem dX10_readDigits_75 : decode cX10_readDigits 75 = .ok (.getfield 40, 3) := by decide +kernel
theorem dX10_readDigits_78 : decode cX10_readDigits 78 = .ok (.baload, 1) := by decide +kernel
theorem dX10_readDigits_79 : decode cX10_readDigits 79 = .ok (.iadd, 1) := by decide +kernel
theorem dX10_readDigits_80 : decode cX10_readDigits 80 = .ok (.bipush 48, 2) := by decide +kernel
theorem dX10_readDigits_82 : decode cX10_readDigits 82 = .ok (.isub, 1) := by decide +kernel
theorem dX10_readDigits_83 : decode cX10_readDigits 83 = .ok (.putfield 31, 3) := by decide +kernel
theorem dX10_readDigits_86 : decode cX10_readDigits 86 = .ok (.aload_n 0, 1) := by decide +kernel
theorem dX10_readDigits_87 : decode cX10_readDigits 87 = .ok (.dup, 1) := by decide +kernel
theorem dX10_readDigits_88 : decode cX10_readDigits 88 = .ok (.getfield 40, 3) := by decide +kernel
theorem dX10_readDigits_91 : decode cX10_readDigits 91 = .ok (.iconst 1, 1) := by decide +kernel
theorem dX10_readDigits_92 : decode cX10_readDigits 92 = .ok (.iadd, 1) := by decide +kernel
theorem dX10_readDigits_93 : decode cX10_readDigits 93 = .ok (.putfield 40, 3) := by decide +kernel
theorem dX10_readDigits_96 : decode cX10_readDigits 96 = .ok (.goto (-86), 3) := by decide +kernel
theorem dX10_readDigits_99 : decode cX10_readDigits 99 = .ok (.return_, 1) := by decide +kernel
def f_X10_readDigits_86 (K10 : Hp → Option Hp) (S : Hp) : Option Hp :=
  le1 (ho_sI S 10 9 ((S.1 10 9) + (1 : Int32))) (fun S1 => K10 S1)
set_option maxHeartbeats 4000000 in
set_option maxRecDepth 100000 in
theorem w_X10_readDigits_86 {p : Program} {l : Launch} {e : Env} {s : State} {m : MethodId} {args : Array Value} {below : List Frame} {meth : Method} {c : Code} {E : Ev} {S0 : Hp} {r : Hp} (C : ho_I p s m args meth c RX10 cX10_readDigits 1 none) (K10 : Hp → Option Hp) (hK10 : ∀ (S : Hp), K10 S = some r → ho_G p l e s m args below meth c yH E S0 0 1 (none, r) 10 [(0, .ref (E.2.1 10))] [] S) :
    ∀ (S : Hp), f_X10_readDigits_86 K10 S = some r → ho_G p l e s m args below meth c yH E S0 0 1 (none, r) 86 [(0, .ref (E.2.1 10))] [] S := by
  intro S h H locs ls hR hl
  unfold f_X10_readDigits_86 at h
  refine lv_aload_n C.1 C.2.1 dX10_readDigits_86 rfl (lv_at hl 0 rfl) ?_
  refine lv_dup C.1 C.2.1 dX10_readDigits_87 rfl ?_
  refine ho_getI C cf10 fH_RX10_40 hR aH_10 dX10_readDigits_88 ?_
  refine lv_iconst (v := (1 : Int32)) C.1 C.2.1 dX10_readDigits_91 (by decide) ?_
  refine lv_iadd C.1 C.2.1 dX10_readDigits_92 ?_
  obtain ⟨S1, e1, h⟩ := le1_ok h
  refine hr_putI C cf10 fH_RX10_40 hR aH_10 e1 dX10_readDigits_93 (fun H locs hR => ?_)
  refine lv_goto (tgt := 10) C.1 C.2.1 dX10_readDigits_96 (by decide) ?_
  exact hK10 S1 h _ _ _ hR (lv_sub hl [0] rfl)
def f_X10_readDigits_10 : Nat → Hp → Option Hp
  | 0, _ => none
  | k + 1, S => if (S.1 10 1) ≤ (S.1 10 9) then some S else ldI S 11 1600 (S.1 10 9) (fun v1 => if v1 < (48 : Int32) then some S else ldI S 11 1600 (S.1 10 9) (fun v2 => if (57 : Int32) < v2 then some S else if (4 : Int32) ≤ ((S.1 10 9) - (S.1 10 5)) then f_X10_readDigits_86 (f_X10_readDigits_10 k) S else ldI S 11 1600 (S.1 10 9) (fun v3 => le1 (ho_sI S 10 6 ((((S.1 10 6) * (10 : Int32)) + v3) - (48 : Int32))) (fun S4 => f_X10_readDigits_86 (f_X10_readDigits_10 k) S4))))
set_option maxHeartbeats 4000000 in
set_option maxRecDepth 100000 in
theorem w_X10_readDigits_10 {p : Program} {l : Launch} {e : Env} {s : State} {m : MethodId} {args : Array Value} {below : List Frame} {meth : Method} {c : Code} {E : Ev} {S0 : Hp} {r : Hp} (C : ho_I p s m args meth c RX10 cX10_readDigits 1 none) :
    ∀ (k : Nat) (S : Hp), f_X10_readDigits_10 k S = some r → ho_G p l e s m args below meth c yH E S0 0 1 (none, r) 10 [(0, .ref (E.2.1 10))] [] S := by
  intro k
  induction k with
  | zero =>
    intro S h
    exact absurd (show (none : Option Hp) = some r from h) (by simp)
  | succ k ih =>
    intro S h H locs ls hR hl
    rw [f_X10_readDigits_10] at h
    refine lv_aload_n C.1 C.2.1 dX10_readDigits_10 rfl (lv_at hl 0 rfl) ?_
    refine ho_getI C cf10 fH_RX10_40 hR aH_10 dX10_readDigits_11 ?_
    refine lv_aload_n C.1 C.2.1 dX10_readDigits_14 rfl (lv_at hl 0 rfl) ?_
    refine ho_getI C cf10 fH_RX10_15 hR aH_10 dX10_readDigits_15 ?_
    refine lv_icmp_ge (tgt := 99) C.1 C.2.1 dX10_readDigits_18 (by decide) (fun hc => ?_) (fun hc => ?_)
    · replace h := if_t h hc
      exact ho_vret C hR h dX10_readDigits_99
    · replace h := if_f h hc
      refine lv_aload_n C.1 C.2.1 dX10_readDigits_21 rfl (lv_at hl 0 rfl) ?_
      refine ho_getR (a' := 11) C cf10 fH_RX10_9 hR aH_10 rfl dX10_readDigits_22 ?_
      refine lv_aload_n C.1 C.2.1 dX10_readDigits_25 rfl (lv_at hl 0 rfl) ?_
      refine ho_getI C cf10 fH_RX10_40 hR aH_10 dX10_readDigits_26 ?_
      obtain ⟨v1, e1, hi1, h⟩ := ldI_ok h
      refine hr_bld C hR aH_11 hi1 e1 dX10_readDigits_29 ?_
      refine lv_bipush (v := (48 : Int32)) C.1 C.2.1 dX10_readDigits_30 (by decide) ?_
      refine lv_icmp_lt (tgt := 99) C.1 C.2.1 dX10_readDigits_32 (by decide) (fun hc => ?_) (fun hc => ?_)
      · replace h := if_t h hc
        exact ho_vret C hR h dX10_readDigits_99
      · replace h := if_f h hc
        refine lv_aload_n C.1 C.2.1 dX10_readDigits_35 rfl (lv_at hl 0 rfl) ?_
        refine ho_getR (a' := 11) C cf10 fH_RX10_9 hR aH_10 rfl dX10_readDigits_36 ?_
        refine lv_aload_n C.1 C.2.1 dX10_readDigits_39 rfl (lv_at hl 0 rfl) ?_
        refine ho_getI C cf10 fH_RX10_40 hR aH_10 dX10_readDigits_40 ?_
        obtain ⟨v2, e2, hi2, h⟩ := ldI_ok h
        refine hr_bld C hR aH_11 hi2 e2 dX10_readDigits_43 ?_
        refine lv_bipush (v := (57 : Int32)) C.1 C.2.1 dX10_readDigits_44 (by decide) ?_
        refine lv_icmp_gt (tgt := 99) C.1 C.2.1 dX10_readDigits_46 (by decide) (fun hc => ?_) (fun hc => ?_)
        · replace h := if_t h hc
          exact ho_vret C hR h dX10_readDigits_99
        · replace h := if_f h hc
          refine lv_aload_n C.1 C.2.1 dX10_readDigits_49 rfl (lv_at hl 0 rfl) ?_
          refine ho_getI C cf10 fH_RX10_40 hR aH_10 dX10_readDigits_50 ?_
          refine lv_aload_n C.1 C.2.1 dX10_readDigits_53 rfl (lv_at hl 0 rfl) ?_
          refine ho_getI C cf10 fH_RX10_28 hR aH_10 dX10_readDigits_54 ?_
          refine lv_isub C.1 C.2.1 dX10_readDigits_57 ?_
          refine lv_iconst (v := (4 : Int32)) C.1 C.2.1 dX10_readDigits_58 (by decide) ?_
          refine lv_icmp_ge (tgt := 86) C.1 C.2.1 dX10_readDigits_59 (by decide) (fun hc => ?_) (fun hc => ?_)
          · replace h := if_t h hc
            exact w_X10_readDigits_86 C (f_X10_readDigits_10 k) ih S h _ _ _ hR (lv_sub hl [0] rfl)
          · replace h := if_f h hc
            refine lv_aload_n C.1 C.2.1 dX10_readDigits_62 rfl (lv_at hl 0 rfl) ?_
            refine lv_aload_n C.1 C.2.1 dX10_readDigits_63 rfl (lv_at hl 0 rfl) ?_
            refine ho_getI C cf10 fH_RX10_31 hR aH_10 dX10_readDigits_64 ?_
            refine lv_bipush (v := (10 : Int32)) C.1 C.2.1 dX10_readDigits_67 (by decide) ?_
            refine lv_imul C.1 C.2.1 dX10_readDigits_69 ?_
            refine lv_aload_n C.1 C.2.1 dX10_readDigits_70 rfl (lv_at hl 0 rfl) ?_
            refine ho_getR (a' := 11) C cf10 fH_RX10_9 hR aH_10 rfl dX10_readDigits_71 ?_
            refine lv_aload_n C.1 C.2.1 dX10_readDigits_74 rfl (lv_at hl 0 rfl) ?_
            refine ho_getI C cf10 fH_RX10_40 hR aH_10 dX10_readDigits_75 ?_
            obtain ⟨v3, e3, hi3, h⟩ := ldI_ok h
            refine hr_bld C hR aH_11 hi3 e3 dX10_readDigits_78 ?_
            refine lv_iadd C.1 C.2.1 dX10_readDigits_79 ?_
            refine lv_bipush (v := (48 : Int32)) C.1 C.2.1 dX10_readDigits_80 (by decide) ?_
            refine lv_isub C.1 C.2.1 dX10_readDigits_82 ?_
            obtain ⟨S4, e4, h⟩ := le1_ok h
            refine hr_putI C cf10 fH_RX10_31 hR aH_10 e4 dX10_readDigits_83 (fun H locs hR => ?_)
            exact w_X10_readDigits_86 C (f_X10_readDigits_10 k) ih S4 h _ _ _ hR (lv_sub hl [0] rfl)
def f_X10_readDigits (S : Hp) : Option Hp :=
  le1 (ho_sI S 10 4 (2 : Int32)) (fun S1 => le1 (ho_sI S1 10 6 (0 : Int32)) (fun S2 => f_X10_readDigits_10 5000 S2))
set_option maxHeartbeats 4000000 in
set_option maxRecDepth 100000 in
theorem c_X10_readDigits (l : Launch) (E : Ev) (S : Hp) (r : Hp) (h : f_X10_readDigits S = some r) : ho_M l yH E yX10_readDigits cX10_readDigits 1 none 0 [.ref (E.2.1 10)] S (none, r) := by
  refine ho_in (by decide) (Nat.le_of_ble_eq_true rfl) ?_
  intro p e s m args below meth c C hR ls hl
  have C : ho_I p s m args meth c RX10 cX10_readDigits 1 none := C
  have hl : lv_has ls 1 [(0, .ref (E.2.1 10))] := hl
  unfold f_X10_readDigits at h
  refine lv_aload_n C.1 C.2.1 dX10_readDigits_0 rfl (lv_at hl 0 rfl) ?_
  refine lv_iconst (v := (2 : Int32)) C.1 C.2.1 dX10_readDigits_1 (by decide) ?_
  obtain ⟨S1, e1, h⟩ := le1_ok h
  refine hr_putI C cf10 fH_RX10_25 hR aH_10 e1 dX10_readDigits_2 (fun H locs hR => ?_)
  refine lv_aload_n C.1 C.2.1 dX10_readDigits_5 rfl (lv_at hl 0 rfl) ?_
  refine lv_iconst (v := (0 : Int32)) C.1 C.2.1 dX10_readDigits_6 (by decide) ?_
  obtain ⟨S2, e2, h⟩ := le1_ok h
  refine hr_putI C cf10 fH_RX10_31 hR aH_10 e2 dX10_readDigits_7 (fun H locs hR => ?_)
  exact w_X10_readDigits_10 C 5000 S2 h _ _ _ hR (lv_sub hl [0] rfl)
theorem dX10_next_0 : decode cX10_next 0 = .ok (.aload_n 0, 1) := by decide +kernel
theorem dX10_next_1 : decode cX10_next 1 = .ok (.getfield 40, 3) := by decide +kernel
theorem dX10_next_4 : decode cX10_next 4 = .ok (.istore_n 1, 1) := by decide +kernel
theorem dX10_next_5 : decode cX10_next 5 = .ok (.aload_n 0, 1) := by decide +kernel
theorem dX10_next_6 : decode cX10_next 6 = .ok (.getfield 25, 3) := by decide +kernel
theorem dX10_next_9 : decode cX10_next 9 = .ok (.iconst 1, 1) := by decide +kernel
theorem dX10_next_10 : decode cX10_next 10 = .ok (.if_icmp .eq 11, 3) := by decide +kernel
theorem dX10_next_13 : decode cX10_next 13 = .ok (.aload_n 0, 1) := by decide +kernel
theorem dX10_next_14 : decode cX10_next 14 = .ok (.getfield 25, 3) := by decide +kernel
theorem dX10_next_17 : decode cX10_next 17 = .ok (.iconst 2, 1) := by decide +kernel
theorem dX10_next_18 : decode cX10_next 18 = .ok (.if_icmp .ne 7, 3) := by decide +kernel
theorem dX10_next_21 : decode cX10_next 21 = .ok (.iconst 1, 1) := by decide +kernel
theorem dX10_next_22 : decode cX10_next 22 = .ok (.goto 4, 3) := by decide +kernel
theorem dX10_next_25 : decode cX10_next 25 = .ok (.iconst 0, 1) := by decide +kernel
theorem dX10_next_26 : decode cX10_next 26 = .ok (.istore_n 2, 1) := by decide +kernel
theorem dX10_next_27 : decode cX10_next 27 = .ok (.aload_n 0, 1) := by decide +kernel
theorem dX10_next_28 : decode cX10_next 28 = .ok (.aload_n 0, 1) := by decide +kernel
theorem dX10_next_29 : decode cX10_next 29 = .ok (.getfield 40, 3) := by decide +kernel
theorem dX10_next_32 : decode cX10_next 32 = .ok (.putfield 28, 3) := by decide +kernel
theorem dX10_next_35 : decode cX10_next 35 = .ok (.aload_n 0, 1) := by decide +kernel
theorem dX10_next_36 : decode cX10_next 36 = .ok (.getfield 28, 3) := by decide +kernel
theorem dX10_next_39 : decode cX10_next 39 = .ok (.aload_n 0, 1) := by decide +kernel
theorem dX10_next_40 : decode cX10_next 40 = .ok (.getfield 15, 3) := by decide +kernel
theorem dX10_next_43 : decode cX10_next 43 = .ok (.if_icmp .ge 44, 3) := by decide +kernel
theorem dX10_next_46 : decode cX10_next 46 = .ok (.aload_n 0, 1) := by decide +kernel
theorem dX10_next_47 : decode cX10_next 47 = .ok (.getfield 9, 3) := by decide +kernel
theorem dX10_next_50 : decode cX10_next 50 = .ok (.aload_n 0, 1) := by decide +kernel
theorem dX10_next_51 : decode cX10_next 51 = .ok (.getfield 28, 3) := by decide +kernel
theorem dX10_next_54 : decode cX10_next 54 = .ok (.baload, 1) := by decide +kernel
theorem dX10_next_55 : decode cX10_next 55 = .ok (.bipush 32, 2) := by decide +kernel
theorem dX10_next_57 : decode cX10_next 57 = .ok (.if_icmp .eq 17, 3) := by decide +kernel
theorem dX10_next_60 : decode cX10_next 60 = .ok (.aload_n 0, 1) := by decide +kernel
theorem dX10_next_61 : decode cX10_next 61 = .ok (.getfield 9, 3) := by decide +kernel
theorem dX10_next_64 : decode cX10_next 64 = .ok (.aload_n 0, 1) := by decide +kernel
theorem dX10_next_65 : decode cX10_next 65 = .ok (.getfield 28, 3) := by decide +kernel
theorem dX10_next_68 : decode cX10_next 68 = .ok (.baload, 1) := by decide +kernel
theorem dX10_next_69 : decode cX10_next 69 = .ok (.bipush 10, 2) := by decide +kernel
theorem dX10_next_71 : decode cX10_next 71 = .ok (.if_icmp .ne 16, 3) := by decide +kernel
theorem dX10_next_74 : decode cX10_next 74 = .ok (.aload_n 0, 1) := by decide +kernel
theorem dX10_next_75 : decode cX10_next 75 = .ok (.dup, 1) := by decide +kernel
theorem dX10_next_76 : decode cX10_next 76 = .ok (.getfield 28, 3) := by decide +kernel
theorem dX10_next_79 : decode cX10_next 79 = .ok (.iconst 1, 1) := by decide +kernel
theorem dX10_next_80 : decode cX10_next 80 = .ok (.iadd, 1) := by decide +kernel
theorem dX10_next_81 : decode cX10_next 81 = .ok (.putfield 28, 3) := by decide +kernel
theorem dX10_next_84 : decode cX10_next 84 = .ok (.goto (-49), 3) := by decide +kernel
theorem dX10_next_87 : decode cX10_next 87 = .ok (.aload_n 0, 1) := by decide +kernel
theorem dX10_next_88 : decode cX10_next 88 = .ok (.aload_n 0, 1) := by decide +kernel
theorem dX10_next_89 : decode cX10_next 89 = .ok (.getfield 28, 3) := by decide +kernel
theorem dX10_next_92 : decode cX10_next 92 = .ok (.putfield 40, 3) := by decide +kernel
theorem dX10_next_95 : decode cX10_next 95 = .ok (.aload_n 0, 1) := by decide +kernel
theorem dX10_next_96 : decode cX10_next 96 = .ok (.getfield 28, 3) := by decide +kernel
theorem dX10_next_99 : decode cX10_next 99 = .ok (.aload_n 0, 1) := by decide +kernel
theorem dX10_next_100 : decode cX10_next 100 = .ok (.getfield 15, 3) := by decide +kernel
theorem dX10_next_103 : decode cX10_next 103 = .ok (.if_icmp .ge 15, 3) := by decide +kernel
theorem dX10_next_106 : decode cX10_next 106 = .ok (.aload_n 0, 1) := by decide +kernel
theorem dX10_next_107 : decode cX10_next 107 = .ok (.getfield 9, 3) := by decide +kernel
theorem dX10_next_110 : decode cX10_next 110 = .ok (.aload_n 0, 1) := by decide +kernel
theorem dX10_next_111 : decode cX10_next 111 = .ok (.getfield 28, 3) := by decide +kernel
theorem dX10_next_114 : decode cX10_next 114 = .ok (.baload, 1) := by decide +kernel
theorem dX10_next_115 : decode cX10_next 115 = .ok (.goto 4, 3) := by decide +kernel
theorem dX10_next_118 : decode cX10_next 118 = .ok (.iconst (-1), 1) := by decide +kernel
theorem dX10_next_119 : decode cX10_next 119 = .ok (.istore_n 3, 1) := by decide +kernel
theorem dX10_next_120 : decode cX10_next 120 = .ok (.aload_n 0, 1) := by decide +kernel
theorem dX10_next_121 : decode cX10_next 121 = .ok (.getfield 28, 3) := by decide +kernel
theorem dX10_next_124 : decode cX10_next 124 = .ok (.aload_n 0, 1) := by decide +kernel
theorem dX10_next_125 : decode cX10_next 125 = .ok (.getfield 15, 3) := by decide +kernel
theorem dX10_next_128 : decode cX10_next 128 = .ok (.if_icmp .lt 11, 3) := by decide +kernel
theorem dX10_next_131 : decode cX10_next 131 = .ok (.aload_n 0, 1) := by decide +kernel
theorem dX10_next_132 : decode cX10_next 132 = .ok (.iconst 0, 1) := by decide +kernel
theorem dX10_next_133 : decode cX10_next 133 = .ok (.putfield 25, 3) := by decide +kernel
theorem dX10_next_136 : decode cX10_next 136 = .ok (.goto 65, 3) := by decide +kernel
theorem dX10_next_139 : decode cX10_next 139 = .ok (.iload_n 3, 1) := by decide +kernel
theorem dX10_next_140 : decode cX10_next 140 = .ok (.bipush 97, 2) := by decide +kernel
theorem dX10_next_142 : decode cX10_next 142 = .ok (.if_icmp .lt 16, 3) := by decide +kernel
theorem dX10_next_145 : decode cX10_next 145 = .ok (.iload_n 3, 1) := by decide +kernel
theorem dX10_next_146 : decode cX10_next 146 = .ok (.bipush 122, 2) := by decide +kernel
theorem dX10_next_148 : decode cX10_next 148 = .ok (.if_icmp .gt 10, 3) := by decide +kernel
theorem dX10_next_151 : decode cX10_next 151 = .ok (.aload_n 0, 1) := by decide +kernel
theorem dX10_next_152 : decode cX10_next 152 = .ok (.invokevirtual 58, 3) := by decide +kernel
theorem dX10_next_155 : decode cX10_next 155 = .ok (.goto 46, 3) := by decide +kernel
theorem dX10_next_158 : decode cX10_next 158 = .ok (.iload_n 3, 1) := by decide +kernel
theorem dX10_next_159 : decode cX10_next 159 = .ok (.bipush 48, 2) := by decide +kernel
theorem dX10_next_161 : decode cX10_next 161 = .ok (.if_icmp .lt 16, 3) := by decide +kernel
theorem dX10_next_164 : decode cX10_next 164 = .ok (.iload_n 3, 1) := by decide +kernel
theorem dX10_next_165 : decode cX10_next 165 = .ok (.bipush 57, 2) := by decide +kernel
theorem dX10_next_167 : decode cX10_next 167 = .ok (.if_icmp .gt 10, 3) := by decide +kernel
theorem dX10_next_170 : decode cX10_next 170 = .ok (.aload_n 0, 1) := by decide +kernel
theorem dX10_next_171 : decode cX10_next 171 = .ok (.invokevirtual 61, 3) := by decide +kernel
theorem dX10_next_174 : decode cX10_next 174 = .ok (.goto 27, 3) := by decide +kernel
theorem dX10_next_177 : decode cX10_next 177 = .ok (.aload_n 0, 1) := by decide +kernel
theorem dX10_next_178 : decode cX10_next 178 = .ok (.iconst 3, 1) := by decide +kernel
theorem dX10_next_179 : decode cX10_next 179 = .ok (.putfield 25, 3) := by decide +kernel
theorem dX10_next_182 : decode cX10_next 182 = .ok (.aload_n 0, 1) := by decide +kernel
theorem dX10_next_183 : decode cX10_next 183 = .ok (.iload_n 3, 1) := by decide +kernel
theorem dX10_next_184 : decode cX10_next 184 = .ok (.sipush 255, 3) := by decide +kernel
theorem dX10_next_187 : decode cX10_next 187 = .ok (.iand, 1) := by decide +kernel
theorem dX10_next_188 : decode cX10_next 188 = .ok (.putfield 31, 3) := by decide +kernel
theorem dX10_next_191 : decode cX10_next 191 = .ok (.aload_n 0, 1) := by decide +kernel
theorem dX10_next_192 : decode cX10_next 192 = .ok (.aload_n 0, 1) := by decide +kernel
theorem dX10_next_193 : decode cX10_next 193 = .ok (.getfield 28, 3) := by decide +kernel
theorem dX10_next_196 : decode cX10_next 196 = .ok (.iconst 1, 1) := by decide +kernel
theorem dX10_next_197 : decode cX10_next 197 = .ok (.iadd, 1) := by decide +kernel
theorem dX10_next_198 : decode cX10_next 198 = .ok (.putfield 40, 3) := by decide +kernel
theorem dX10_next_201 : decode cX10_next 201 = .ok (.iload_n 2, 1) := by decide +kernel
theorem dX10_next_202 : decode cX10_next 202 = .ok (.ifCond .eq 32, 3) := by decide +kernel
theorem dX10_next_205 : decode cX10_next 205 = .ok (.aload_n 0, 1) := by decide +kernel
theorem dX10_next_206 : decode cX10_next 206 = .ok (.getfield 28, 3) := by decide +kernel
theorem dX10_next_209 : decode cX10_next 209 = .ok (.iload_n 1, 1) := by decide +kernel
theorem dX10_next_210 : decode cX10_next 210 = .ok (.if_icmp .ne 24, 3) := by decide +kernel
theorem dX10_next_213 : decode cX10_next 213 = .ok (.aload_n 0, 1) := by decide +kernel
theorem dX10_next_214 : decode cX10_next 214 = .ok (.getfield 25, 3) := by decide +kernel
theorem dX10_next_217 : decode cX10_next 217 = .ok (.iconst 1, 1) := by decide +kernel
theorem dX10_next_218 : decode cX10_next 218 = .ok (.if_icmp .eq 11, 3) := by decide +kernel
theorem dX10_next_221 : decode cX10_next 221 = .ok (.aload_n 0, 1) := by decide +kernel
theorem dX10_next_222 : decode cX10_next 222 = .ok (.getfield 25, 3) := by decide +kernel
theorem dX10_next_225 : decode cX10_next 225 = .ok (.iconst 2, 1) := by decide +kernel
theorem dX10_next_226 : decode cX10_next 226 = .ok (.if_icmp .ne 8, 3) := by decide +kernel
theorem dX10_next_229 : decode cX10_next 229 = .ok (.aload_n 0, 1) := by decide +kernel
theorem dX10_next_230 : decode cX10_next 230 = .ok (.iconst 4, 1) := by decide +kernel
theorem dX10_next_231 : decode cX10_next 231 = .ok (.putfield 25, 3) := by decide +kernel
theorem dX10_next_234 : decode cX10_next 234 = .ok (.return_, 1) := by decide +kernel
def f_X10_next_229 (S : Hp) : Option Hp :=
  le1 (ho_sI S 10 4 (4 : Int32)) (fun S1 => some S1)
set_option maxHeartbeats 4000000 in
set_option maxRecDepth 100000 in
theorem w_X10_next_229 {p : Program} {l : Launch} {e : Env} {s : State} {m : MethodId} {args : Array Value} {below : List Frame} {meth : Method} {c : Code} {E : Ev} {S0 : Hp} {r : Hp} (C : ho_I p s m args meth c RX10 cX10_next 4 none) :
    ∀ (S : Hp), f_X10_next_229 S = some r → ho_G p l e s m args below meth c yH E S0 1 4 (none, r) 229 [(0, .ref (E.2.1 10))] [] S := by
  intro S h H locs ls hR hl
  unfold f_X10_next_229 at h
  refine lv_aload_n C.1 C.2.1 dX10_next_229 rfl (lv_at hl 0 rfl) ?_
  refine lv_iconst (v := (4 : Int32)) C.1 C.2.1 dX10_next_230 (by decide) ?_
  obtain ⟨S1, e1, h⟩ := le1_ok h
  refine hr_putI C cf10 fH_RX10_25 hR aH_10 e1 dX10_next_231 (fun H locs hR => ?_)
  exact ho_vret C hR h dX10_next_234
def f_X10_next_201 (x1 : Int32) (x2 : Int32) (S : Hp) : Option Hp :=
  if x2 = 0 then some S else if (S.1 10 5) = x1 then if (S.1 10 4) = (1 : Int32) then f_X10_next_229 S else if (S.1 10 4) = (2 : Int32) then f_X10_next_229 S else some S else some S
set_option maxHeartbeats 4000000 in
set_option maxRecDepth 100000 in
theorem w_X10_next_201 {p : Program} {l : Launch} {e : Env} {s : State} {m : MethodId} {args : Array Value} {below : List Frame} {meth : Method} {c : Code} {E : Ev} {S0 : Hp} {r : Hp} (C : ho_I p s m args meth c RX10 cX10_next 4 none) :
    ∀ (x1 : Int32) (x2 : Int32) (S : Hp), f_X10_next_201 x1 x2 S = some r → ho_G p l e s m args below meth c yH E S0 1 4 (none, r) 201 [(0, .ref (E.2.1 10)), (1, .int x1), (2, .int x2)] [] S := by
  intro x1 x2 S h H locs ls hR hl
  unfold f_X10_next_201 at h
  refine lv_iload_n C.1 C.2.1 dX10_next_201 rfl (lv_at hl 2 rfl) ?_
  refine lv_if_eq (tgt := 234) C.1 C.2.1 dX10_next_202 (by decide) (fun hc => ?_) (fun hc => ?_)
  · replace h := if_t h hc
    exact ho_vret C hR h dX10_next_234
  · replace h := if_f h hc
    refine lv_aload_n C.1 C.2.1 dX10_next_205 rfl (lv_at hl 0 rfl) ?_
    refine ho_getI C cf10 fH_RX10_28 hR aH_10 dX10_next_206 ?_
    refine lv_iload_n C.1 C.2.1 dX10_next_209 rfl (lv_at hl 1 rfl) ?_
    refine lv_icmp_ne (tgt := 234) C.1 C.2.1 dX10_next_210 (by decide) (fun hc => ?_) (fun hc => ?_)
    · replace h := if_f h hc
      exact ho_vret C hR h dX10_next_234
    · replace h := if_t h hc
      refine lv_aload_n C.1 C.2.1 dX10_next_213 rfl (lv_at hl 0 rfl) ?_
      refine ho_getI C cf10 fH_RX10_25 hR aH_10 dX10_next_214 ?_
      refine lv_iconst (v := (1 : Int32)) C.1 C.2.1 dX10_next_217 (by decide) ?_
      refine lv_icmp_eq (tgt := 229) C.1 C.2.1 dX10_next_218 (by decide) (fun hc => ?_) (fun hc => ?_)
      · replace h := if_t h hc
        exact w_X10_next_229 C S h _ _ _ hR (lv_sub hl [0] rfl)
      · replace h := if_f h hc
        refine lv_aload_n C.1 C.2.1 dX10_next_221 rfl (lv_at hl 0 rfl) ?_
        refine ho_getI C cf10 fH_RX10_25 hR aH_10 dX10_next_222 ?_
        refine lv_iconst (v := (2 : Int32)) C.1 C.2.1 dX10_next_225 (by decide) ?_
        refine lv_icmp_ne (tgt := 234) C.1 C.2.1 dX10_next_226 (by decide) (fun hc => ?_) (fun hc => ?_)
        · replace h := if_f h hc
          exact ho_vret C hR h dX10_next_234
        · replace h := if_t h hc
          exact w_X10_next_229 C S h _ _ _ hR (lv_sub hl [0] rfl)
def f_X10_next_177 (x1 : Int32) (x2 : Int32) (x3 : Int32) (S : Hp) : Option Hp :=
  le1 (ho_sI S 10 4 (3 : Int32)) (fun S1 => le1 (ho_sI S1 10 6 (x3 &&& (255 : Int32))) (fun S2 => le1 (ho_sI S2 10 9 ((S2.1 10 5) + (1 : Int32))) (fun S3 => f_X10_next_201 x1 x2 S3)))
set_option maxHeartbeats 4000000 in
set_option maxRecDepth 100000 in
theorem w_X10_next_177 {p : Program} {l : Launch} {e : Env} {s : State} {m : MethodId} {args : Array Value} {below : List Frame} {meth : Method} {c : Code} {E : Ev} {S0 : Hp} {r : Hp} (C : ho_I p s m args meth c RX10 cX10_next 4 none) :
    ∀ (x1 : Int32) (x2 : Int32) (x3 : Int32) (S : Hp), f_X10_next_177 x1 x2 x3 S = some r → ho_G p l e s m args below meth c yH E S0 1 4 (none, r) 177 [(0, .ref (E.2.1 10)), (1, .int x1), (2, .int x2), (3, .int x3)] [] S := by
  intro x1 x2 x3 S h H locs ls hR hl
  unfold f_X10_next_177 at h
  refine lv_aload_n C.1 C.2.1 dX10_next_177 rfl (lv_at hl 0 rfl) ?_
  refine lv_iconst (v := (3 : Int32)) C.1 C.2.1 dX10_next_178 (by decide) ?_
  obtain ⟨S1, e1, h⟩ := le1_ok h
  refine hr_putI C cf10 fH_RX10_25 hR aH_10 e1 dX10_next_179 (fun H locs hR => ?_)
  refine lv_aload_n C.1 C.2.1 dX10_next_182 rfl (lv_at hl 0 rfl) ?_
  refine lv_iload_n C.1 C.2.1 dX10_next_183 rfl (lv_at hl 3 rfl) ?_
  refine lv_sipush (v := (255 : Int32)) C.1 C.2.1 dX10_next_184 (by decide) ?_
  refine lv_iand C.1 C.2.1 dX10_next_187 ?_
  obtain ⟨S2, e2, h⟩ := le1_ok h
  refine hr_putI C cf10 fH_RX10_31 hR aH_10 e2 dX10_next_188 (fun H locs hR => ?_)
  refine lv_aload_n C.1 C.2.1 dX10_next_191 rfl (lv_at hl 0 rfl) ?_
  refine lv_aload_n C.1 C.2.1 dX10_next_192 rfl (lv_at hl 0 rfl) ?_
  refine ho_getI C cf10 fH_RX10_28 hR aH_10 dX10_next_193 ?_
  refine lv_iconst (v := (1 : Int32)) C.1 C.2.1 dX10_next_196 (by decide) ?_
  refine lv_iadd C.1 C.2.1 dX10_next_197 ?_
  obtain ⟨S3, e3, h⟩ := le1_ok h
  refine hr_putI C cf10 fH_RX10_40 hR aH_10 e3 dX10_next_198 (fun H locs hR => ?_)
  exact w_X10_next_201 C x1 x2 S3 h _ _ _ hR (lv_sub hl [0, 1, 2] rfl)
def f_X10_next_158 (x1 : Int32) (x2 : Int32) (x3 : Int32) (S : Hp) : Option Hp :=
  if x3 < (48 : Int32) then f_X10_next_177 x1 x2 x3 S else if (57 : Int32) < x3 then f_X10_next_177 x1 x2 x3 S else ob (f_X10_readDigits S) (fun S1 => f_X10_next_201 x1 x2 S1)
set_option maxHeartbeats 4000000 in
set_option maxRecDepth 100000 in
theorem w_X10_next_158 {p : Program} {l : Launch} {e : Env} {s : State} {m : MethodId} {args : Array Value} {below : List Frame} {meth : Method} {c : Code} {E : Ev} {S0 : Hp} {r : Hp} (C : ho_I p s m args meth c RX10 cX10_next 4 none) :
    ∀ (x1 : Int32) (x2 : Int32) (x3 : Int32) (S : Hp), f_X10_next_158 x1 x2 x3 S = some r → ho_G p l e s m args below meth c yH E S0 1 4 (none, r) 158 [(0, .ref (E.2.1 10)), (1, .int x1), (2, .int x2), (3, .int x3)] [] S := by
  intro x1 x2 x3 S h H locs ls hR hl
  unfold f_X10_next_158 at h
  refine lv_iload_n C.1 C.2.1 dX10_next_158 rfl (lv_at hl 3 rfl) ?_
  refine lv_bipush (v := (48 : Int32)) C.1 C.2.1 dX10_next_159 (by decide) ?_
  refine lv_icmp_lt (tgt := 177) C.1 C.2.1 dX10_next_161 (by decide) (fun hc => ?_) (fun hc => ?_)
  · replace h := if_t h hc
    exact w_X10_next_177 C x1 x2 x3 S h _ _ _ hR (lv_sub hl [0, 1, 2, 3] rfl)
  · replace h := if_f h hc
    refine lv_iload_n C.1 C.2.1 dX10_next_164 rfl (lv_at hl 3 rfl) ?_
    refine lv_bipush (v := (57 : Int32)) C.1 C.2.1 dX10_next_165 (by decide) ?_
    refine lv_icmp_gt (tgt := 177) C.1 C.2.1 dX10_next_167 (by decide) (fun hc => ?_) (fun hc => ?_)
    · replace h := if_t h hc
      exact w_X10_next_177 C x1 x2 x3 S h _ _ _ hR (lv_sub hl [0, 1, 2, 3] rfl)
    · replace h := if_f h hc
      refine lv_aload_n C.1 C.2.1 dX10_next_170 rfl (lv_at hl 0 rfl) ?_
      obtain ⟨S1, h1, h⟩ := ob_ok h
      refine hr_Vv (S' := S1) (As := []) (rest := []) C cf10 (c_X10_readDigits l E _ _ h1) yv_X10_readDigits lk_RX10_61 rfl aH_10 rfl rfl hl.1 (Nat.le_of_ble_eq_true rfl) (by decide) (by decide) hR (ho_A hR) dX10_next_171 (fun H locs hR => ?_)
      refine lv_goto (tgt := 201) C.1 C.2.1 dX10_next_174 (by decide) ?_
      exact w_X10_next_201 C x1 x2 S1 h _ _ _ hR (lv_sub hl [0, 1, 2] rfl)
def f_X10_next_119 (x1 : Int32) (x2 : Int32) (z0 : Int32) (S : Hp) : Option Hp :=
  if (S.1 10 5) < (S.1 10 1) then if z0 < (97 : Int32) then f_X10_next_158 x1 x2 z0 S else if (122 : Int32) < z0 then f_X10_next_158 x1 x2 z0 S else ob (f_X10_readWord S) (fun S1 => f_X10_next_201 x1 x2 S1) else le1 (ho_sI S 10 4 (0 : Int32)) (fun S2 => f_X10_next_201 x1 x2 S2)
set_option maxHeartbeats 4000000 in
set_option maxRecDepth 100000 in
theorem w_X10_next_119 {p : Program} {l : Launch} {e : Env} {s : State} {m : MethodId} {args : Array Value} {below : List Frame} {meth : Method} {c : Code} {E : Ev} {S0 : Hp} {r : Hp} (C : ho_I p s m args meth c RX10 cX10_next 4 none) :
    ∀ (x1 : Int32) (x2 : Int32) (z0 : Int32) (S : Hp), f_X10_next_119 x1 x2 z0 S = some r → ho_G p l e s m args below meth c yH E S0 1 4 (none, r) 119 [(0, .ref (E.2.1 10)), (1, .int x1), (2, .int x2)] [.int z0] S := by
  intro x1 x2 z0 S h H locs ls hR hl
  unfold f_X10_next_119 at h
  refine lv_istore_n (lv' := [(3, .int z0), (0, .ref (E.2.1 10)), (1, .int x1), (2, .int x2)]) C.1 C.2.1 dX10_next_119 rfl hl (by decide) rfl (fun ls hl => ?_)
  refine lv_aload_n C.1 C.2.1 dX10_next_120 rfl (lv_at hl 1 rfl) ?_
  refine ho_getI C cf10 fH_RX10_28 hR aH_10 dX10_next_121 ?_
  refine lv_aload_n C.1 C.2.1 dX10_next_124 rfl (lv_at hl 1 rfl) ?_
  refine ho_getI C cf10 fH_RX10_15 hR aH_10 dX10_next_125 ?_
  refine lv_icmp_lt (tgt := 139) C.1 C.2.1 dX10_next_128 (by decide) (fun hc => ?_) (fun hc => ?_)
  · replace h := if_t h hc
    refine lv_iload_n C.1 C.2.1 dX10_next_139 rfl (lv_at hl 0 rfl) ?_
    refine lv_bipush (v := (97 : Int32)) C.1 C.2.1 dX10_next_140 (by decide) ?_
    refine lv_icmp_lt (tgt := 158) C.1 C.2.1 dX10_next_142 (by decide) (fun hc => ?_) (fun hc => ?_)
    · replace h := if_t h hc
      exact w_X10_next_158 C x1 x2 z0 S h _ _ _ hR (lv_sub hl [1, 2, 3, 0] rfl)
    · replace h := if_f h hc
      refine lv_iload_n C.1 C.2.1 dX10_next_145 rfl (lv_at hl 0 rfl) ?_
      refine lv_bipush (v := (122 : Int32)) C.1 C.2.1 dX10_next_146 (by decide) ?_
      refine lv_icmp_gt (tgt := 158) C.1 C.2.1 dX10_next_148 (by decide) (fun hc => ?_) (fun hc => ?_)
      · replace h := if_t h hc
        exact w_X10_next_158 C x1 x2 z0 S h _ _ _ hR (lv_sub hl [1, 2, 3, 0] rfl)
      · replace h := if_f h hc
        refine lv_aload_n C.1 C.2.1 dX10_next_151 rfl (lv_at hl 1 rfl) ?_
        obtain ⟨S1, h1, h⟩ := ob_ok h
        refine hr_Vv (S' := S1) (As := []) (rest := []) C cf10 (c_X10_readWord l E _ _ h1) yv_X10_readWord lk_RX10_58 rfl aH_10 rfl rfl hl.1 (Nat.le_of_ble_eq_true rfl) (by decide) (by decide) hR (ho_A hR) dX10_next_152 (fun H locs hR => ?_)
        refine lv_goto (tgt := 201) C.1 C.2.1 dX10_next_155 (by decide) ?_
        exact w_X10_next_201 C x1 x2 S1 h _ _ _ hR (lv_sub hl [1, 2, 3] rfl)
  · replace h := if_f h hc
    refine lv_aload_n C.1 C.2.1 dX10_next_131 rfl (lv_at hl 1 rfl) ?_
    refine lv_iconst (v := (0 : Int32)) C.1 C.2.1 dX10_next_132 (by decide) ?_
    obtain ⟨S2, e2, h⟩ := le1_ok h
    refine hr_putI C cf10 fH_RX10_25 hR aH_10 e2 dX10_next_133 (fun H locs hR => ?_)
    refine lv_goto (tgt := 201) C.1 C.2.1 dX10_next_136 (by decide) ?_
    exact w_X10_next_201 C x1 x2 S2 h _ _ _ hR (lv_sub hl [1, 2, 3] rfl)
def f_X10_next_87 (x1 : Int32) (x2 : Int32) (S : Hp) : Option Hp :=
  le1 (ho_sI S 10 9 (S.1 10 5)) (fun S1 => if (S1.1 10 1) ≤ (S1.1 10 5) then f_X10_next_119 x1 x2 (-1 : Int32) S1 else ldI S1 11 1600 (S1.1 10 5) (fun v2 => f_X10_next_119 x1 x2 v2 S1))
set_option maxHeartbeats 4000000 in
set_option maxRecDepth 100000 in
theorem w_X10_next_87 {p : Program} {l : Launch} {e : Env} {s : State} {m : MethodId} {args : Array Value} {below : List Frame} {meth : Method} {c : Code} {E : Ev} {S0 : Hp} {r : Hp} (C : ho_I p s m args meth c RX10 cX10_next 4 none) :
    ∀ (x1 : Int32) (x2 : Int32) (S : Hp), f_X10_next_87 x1 x2 S = some r → ho_G p l e s m args below meth c yH E S0 1 4 (none, r) 87 [(0, .ref (E.2.1 10)), (1, .int x1), (2, .int x2)] [] S := by
  intro x1 x2 S h H locs ls hR hl
  unfold f_X10_next_87 at h
  refine lv_aload_n C.1 C.2.1 dX10_next_87 rfl (lv_at hl 0 rfl) ?_
  refine lv_aload_n C.1 C.2.1 dX10_next_88 rfl (lv_at hl 0 rfl) ?_
  refine ho_getI C cf10 fH_RX10_28 hR aH_10 dX10_next_89 ?_
  obtain ⟨S1, e1, h⟩ := le1_ok h
  refine hr_putI C cf10 fH_RX10_40 hR aH_10 e1 dX10_next_92 (fun H locs hR => ?_)
  refine lv_aload_n C.1 C.2.1 dX10_next_95 rfl (lv_at hl 0 rfl) ?_
  refine ho_getI C cf10 fH_RX10_28 hR aH_10 dX10_next_96 ?_
  refine lv_aload_n C.1 C.2.1 dX10_next_99 rfl (lv_at hl 0 rfl) ?_
  refine ho_getI C cf10 fH_RX10_15 hR aH_10 dX10_next_100 ?_
  refine lv_icmp_ge (tgt := 118) C.1 C.2.1 dX10_next_103 (by decide) (fun hc => ?_) (fun hc => ?_)
  · replace h := if_t h hc
    refine lv_iconst (v := (-1 : Int32)) C.1 C.2.1 dX10_next_118 (by decide) ?_
    exact w_X10_next_119 C x1 x2 (-1 : Int32) S1 h _ _ _ hR (lv_sub hl [0, 1, 2] rfl)
  · replace h := if_f h hc
    refine lv_aload_n C.1 C.2.1 dX10_next_106 rfl (lv_at hl 0 rfl) ?_
    refine ho_getR (a' := 11) C cf10 fH_RX10_9 hR aH_10 rfl dX10_next_107 ?_
    refine lv_aload_n C.1 C.2.1 dX10_next_110 rfl (lv_at hl 0 rfl) ?_
    refine ho_getI C cf10 fH_RX10_28 hR aH_10 dX10_next_111 ?_
    obtain ⟨v2, e2, hi2, h⟩ := ldI_ok h
    refine hr_bld C hR aH_11 hi2 e2 dX10_next_114 ?_
    refine lv_goto (tgt := 119) C.1 C.2.1 dX10_next_115 (by decide) ?_
    exact w_X10_next_119 C x1 x2 v2 S1 h _ _ _ hR (lv_sub hl [0, 1, 2] rfl)
def f_X10_next_74 (K35 : Int32 → Int32 → Hp → Option Hp) (x1 : Int32) (x2 : Int32) (S : Hp) : Option Hp :=
  le1 (ho_sI S 10 5 ((S.1 10 5) + (1 : Int32))) (fun S1 => K35 x1 x2 S1)
set_option maxHeartbeats 4000000 in
set_option maxRecDepth 100000 in
theorem w_X10_next_74 {p : Program} {l : Launch} {e : Env} {s : State} {m : MethodId} {args : Array Value} {below : List Frame} {meth : Method} {c : Code} {E : Ev} {S0 : Hp} {r : Hp} (C : ho_I p s m args meth c RX10 cX10_next 4 none) (K35 : Int32 → Int32 → Hp → Option Hp) (hK35 : ∀ (y1 : Int32) (y2 : Int32) (S : Hp), K35 y1 y2 S = some r → ho_G p l e s m args below meth c yH E S0 1 4 (none, r) 35 [(0, .ref (E.2.1 10)), (1, .int y1), (2, .int y2)] [] S) :
    ∀ (x1 : Int32) (x2 : Int32) (S : Hp), f_X10_next_74 K35 x1 x2 S = some r → ho_G p l e s m args below meth c yH E S0 1 4 (none, r) 74 [(0, .ref (E.2.1 10)), (1, .int x1), (2, .int x2)] [] S := by
  intro x1 x2 S h H locs ls hR hl
  unfold f_X10_next_74 at h
  refine lv_aload_n C.1 C.2.1 dX10_next_74 rfl (lv_at hl 0 rfl) ?_
  refine lv_dup C.1 C.2.1 dX10_next_75 rfl ?_
  refine ho_getI C cf10 fH_RX10_28 hR aH_10 dX10_next_76 ?_
  refine lv_iconst (v := (1 : Int32)) C.1 C.2.1 dX10_next_79 (by decide) ?_
  refine lv_iadd C.1 C.2.1 dX10_next_80 ?_
  obtain ⟨S1, e1, h⟩ := le1_ok h
  refine hr_putI C cf10 fH_RX10_28 hR aH_10 e1 dX10_next_81 (fun H locs hR => ?_)
  refine lv_goto (tgt := 35) C.1 C.2.1 dX10_next_84 (by decide) ?_
  exact hK35 x1 x2 S1 h _ _ _ hR (lv_sub hl [0, 1, 2] rfl)
def f_X10_next_35 : Nat → Int32 → Int32 → Hp → Option Hp
  | 0, _, _, _ => none
  | k + 1, x1, x2, S => if (S.1 10 1) ≤ (S.1 10 5) then f_X10_next_87 x1 x2 S else ldI S 11 1600 (S.1 10 5) (fun v1 => if v1 = (32 : Int32) then f_X10_next_74 (f_X10_next_35 k) x1 x2 S else ldI S 11 1600 (S.1 10 5) (fun v2 => if v2 = (10 : Int32) then f_X10_next_74 (f_X10_next_35 k) x1 x2 S else f_X10_next_87 x1 x2 S))
set_option maxHeartbeats 4000000 in
set_option maxRecDepth 100000 in
theorem w_X10_next_35 {p : Program} {l : Launch} {e : Env} {s : State} {m : MethodId} {args : Array Value} {below : List Frame} {meth : Method} {c : Code} {E : Ev} {S0 : Hp} {r : Hp} (C : ho_I p s m args meth c RX10 cX10_next 4 none) :
    ∀ (k : Nat) (x1 : Int32) (x2 : Int32) (S : Hp), f_X10_next_35 k x1 x2 S = some r → ho_G p l e s m args below meth c yH E S0 1 4 (none, r) 35 [(0, .ref (E.2.1 10)), (1, .int x1), (2, .int x2)] [] S := by
  intro k
  induction k with
  | zero =>
    intro x1 x2 S h
    exact absurd (show (none : Option Hp) = some r from h) (by simp)
  | succ k ih =>
    intro x1 x2 S h H locs ls hR hl
    rw [f_X10_next_35] at h
    refine lv_aload_n C.1 C.2.1 dX10_next_35 rfl (lv_at hl 0 rfl) ?_
    refine ho_getI C cf10 fH_RX10_28 hR aH_10 dX10_next_36 ?_
    refine lv_aload_n C.1 C.2.1 dX10_next_39 rfl (lv_at hl 0 rfl) ?_
    refine ho_getI C cf10 fH_RX10_15 hR aH_10 dX10_next_40 ?_
    refine lv_icmp_ge (tgt := 87) C.1 C.2.1 dX10_next_43 (by decide) (fun hc => ?_) (fun hc => ?_)
    · replace h := if_t h hc
      exact w_X10_next_87 C x1 x2 S h _ _ _ hR (lv_sub hl [0, 1, 2] rfl)
    · replace h := if_f h hc
      refine lv_aload_n C.1 C.2.1 dX10_next_46 rfl (lv_at hl 0 rfl) ?_
      refine ho_getR (a' := 11) C cf10 fH_RX10_9 hR aH_10 rfl dX10_next_47 ?_
      refine lv_aload_n C.1 C.2.1 dX10_next_50 rfl (lv_at hl 0 rfl) ?_
      refine ho_getI C cf10 fH_RX10_28 hR aH_10 dX10_next_51 ?_
      obtain ⟨v1, e1, hi1, h⟩ := ldI_ok h
      refine hr_bld C hR aH_11 hi1 e1 dX10_next_54 ?_
      refine lv_bipush (v := (32 : Int32)) C.1 C.2.1 dX10_next_55 (by decide) ?_
      refine lv_icmp_eq (tgt := 74) C.1 C.2.1 dX10_next_57 (by decide) (fun hc => ?_) (fun hc => ?_)
      · replace h := if_t h hc
        exact w_X10_next_74 C (f_X10_next_35 k) ih x1 x2 S h _ _ _ hR (lv_sub hl [0, 1, 2] rfl)
      · replace h := if_f h hc
        refine lv_aload_n C.1 C.2.1 dX10_next_60 rfl (lv_at hl 0 rfl) ?_
        refine ho_getR (a' := 11) C cf10 fH_RX10_9 hR aH_10 rfl dX10_next_61 ?_
        refine lv_aload_n C.1 C.2.1 dX10_next_64 rfl (lv_at hl 0 rfl) ?_
        refine ho_getI C cf10 fH_RX10_28 hR aH_10 dX10_next_65 ?_
        obtain ⟨v2, e2, hi2, h⟩ := ldI_ok h
        refine hr_bld C hR aH_11 hi2 e2 dX10_next_68 ?_
        refine lv_bipush (v := (10 : Int32)) C.1 C.2.1 dX10_next_69 (by decide) ?_
        refine lv_icmp_ne (tgt := 87) C.1 C.2.1 dX10_next_71 (by decide) (fun hc => ?_) (fun hc => ?_)
        · replace h := if_f h hc
          exact w_X10_next_87 C x1 x2 S h _ _ _ hR (lv_sub hl [0, 1, 2] rfl)
        · replace h := if_t h hc
          exact w_X10_next_74 C (f_X10_next_35 k) ih x1 x2 S h _ _ _ hR (lv_sub hl [0, 1, 2] rfl)
def f_X10_next_26 (x1 : Int32) (z0 : Int32) (S : Hp) : Option Hp :=
  le1 (ho_sI S 10 5 (S.1 10 9)) (fun S1 => f_X10_next_35 5000 x1 z0 S1)
set_option maxHeartbeats 4000000 in
set_option maxRecDepth 100000 in
theorem w_X10_next_26 {p : Program} {l : Launch} {e : Env} {s : State} {m : MethodId} {args : Array Value} {below : List Frame} {meth : Method} {c : Code} {E : Ev} {S0 : Hp} {r : Hp} (C : ho_I p s m args meth c RX10 cX10_next 4 none) :
    ∀ (x1 : Int32) (z0 : Int32) (S : Hp), f_X10_next_26 x1 z0 S = some r → ho_G p l e s m args below meth c yH E S0 1 4 (none, r) 26 [(0, .ref (E.2.1 10)), (1, .int x1)] [.int z0] S := by
  intro x1 z0 S h H locs ls hR hl
  unfold f_X10_next_26 at h
  refine lv_istore_n (lv' := [(2, .int z0), (0, .ref (E.2.1 10)), (1, .int x1)]) C.1 C.2.1 dX10_next_26 rfl hl (by decide) rfl (fun ls hl => ?_)
  refine lv_aload_n C.1 C.2.1 dX10_next_27 rfl (lv_at hl 1 rfl) ?_
  refine lv_aload_n C.1 C.2.1 dX10_next_28 rfl (lv_at hl 1 rfl) ?_
  refine ho_getI C cf10 fH_RX10_40 hR aH_10 dX10_next_29 ?_
  obtain ⟨S1, e1, h⟩ := le1_ok h
  refine hr_putI C cf10 fH_RX10_28 hR aH_10 e1 dX10_next_32 (fun H locs hR => ?_)
  exact w_X10_next_35 C 5000 x1 z0 S1 h _ _ _ hR (lv_sub hl [1, 2, 0] rfl)
def f_X10_next_21 (x1 : Int32) (S : Hp) : Option Hp :=
  f_X10_next_26 x1 (1 : Int32) S
set_option maxHeartbeats 4000000 in
set_option maxRecDepth 100000 in
theorem w_X10_next_21 {p : Program} {l : Launch} {e : Env} {s : State} {m : MethodId} {args : Array Value} {below : List Frame} {meth : Method} {c : Code} {E : Ev} {S0 : Hp} {r : Hp} (C : ho_I p s m args meth c RX10 cX10_next 4 none) :
    ∀ (x1 : Int32) (S : Hp), f_X10_next_21 x1 S = some r → ho_G p l e s m args below meth c yH E S0 1 4 (none, r) 21 [(0, .ref (E.2.1 10)), (1, .int x1)] [] S := by
  intro x1 S h H locs ls hR hl
  unfold f_X10_next_21 at h
  refine lv_iconst (v := (1 : Int32)) C.1 C.2.1 dX10_next_21 (by decide) ?_
  refine lv_goto (tgt := 26) C.1 C.2.1 dX10_next_22 (by decide) ?_
  exact w_X10_next_26 C x1 (1 : Int32) S h _ _ _ hR (lv_sub hl [0, 1] rfl)
def f_X10_next (S : Hp) : Option Hp :=
  le1 (S.1 10 9) (fun v1 => if (S.1 10 4) = (1 : Int32) then f_X10_next_21 v1 S else if (S.1 10 4) = (2 : Int32) then f_X10_next_21 v1 S else f_X10_next_26 v1 (0 : Int32) S)
set_option maxHeartbeats 4000000 in
set_option maxRecDepth 100000 in
theorem c_X10_next (l : Launch) (E : Ev) (S : Hp) (r : Hp) (h : f_X10_next S = some r) : ho_M l yH E yX10_next cX10_next 4 none 1 [.ref (E.2.1 10)] S (none, r) := by
  refine ho_in (by decide) (Nat.le_of_ble_eq_true rfl) ?_
  intro p e s m args below meth c C hR ls hl
  have C : ho_I p s m args meth c RX10 cX10_next 4 none := C
  have hl : lv_has ls 4 [(0, .ref (E.2.1 10))] := hl
  unfold f_X10_next at h
  refine lv_aload_n C.1 C.2.1 dX10_next_0 rfl (lv_at hl 0 rfl) ?_
  refine ho_getI C cf10 fH_RX10_40 hR aH_10 dX10_next_1 ?_
  refine lv_topi (fun v1 e1 => ?_)
  replace h := le1_at e1 h
  refine lv_istore_n (lv' := [(1, .int v1), (0, .ref (E.2.1 10))]) C.1 C.2.1 dX10_next_4 rfl hl (by decide) rfl (fun ls hl => ?_)
  refine lv_aload_n C.1 C.2.1 dX10_next_5 rfl (lv_at hl 1 rfl) ?_
  refine ho_getI C cf10 fH_RX10_25 hR aH_10 dX10_next_6 ?_
  refine lv_iconst (v := (1 : Int32)) C.1 C.2.1 dX10_next_9 (by decide) ?_
  refine lv_icmp_eq (tgt := 21) C.1 C.2.1 dX10_next_10 (by decide) (fun hc => ?_) (fun hc => ?_)
  · replace h := if_t h hc
    exact w_X10_next_21 C v1 S h _ _ _ hR (lv_sub hl [1, 0] rfl)
  · replace h := if_f h hc
    refine lv_aload_n C.1 C.2.1 dX10_next_13 rfl (lv_at hl 1 rfl) ?_
    refine ho_getI C cf10 fH_RX10_25 hR aH_10 dX10_next_14 ?_
    refine lv_iconst (v := (2 : Int32)) C.1 C.2.1 dX10_next_17 (by decide) ?_
    refine lv_icmp_ne (tgt := 25) C.1 C.2.1 dX10_next_18 (by decide) (fun hc => ?_) (fun hc => ?_)
    · replace h := if_f h hc
      refine lv_iconst (v := (0 : Int32)) C.1 C.2.1 dX10_next_25 (by decide) ?_
      exact w_X10_next_26 C v1 (0 : Int32) S h _ _ _ hR (lv_sub hl [1, 0] rfl)
    · replace h := if_t h hc
      exact w_X10_next_21 C v1 S h _ _ _ hR (lv_sub hl [1, 0] rfl)
theorem dX10_begin_0 : decode cX10_begin 0 = .ok (.aload_n 0, 1) := by decide +kernel
theorem dX10_begin_1 : decode cX10_begin 1 = .ok (.iconst 0, 1) := by decide +kernel
theorem dX10_begin_2 : decode cX10_begin 2 = .ok (.putfield 19, 3) := by decide +kernel
theorem dX10_begin_5 : decode cX10_begin 5 = .ok (.aload_n 0, 1) := by decide +kernel
theorem dX10_begin_6 : decode cX10_begin 6 = .ok (.iconst (-1), 1) := by decide +kernel
theorem dX10_begin_7 : decode cX10_begin 7 = .ok (.putfield 22, 3) := by decide +kernel
theorem dX10_begin_10 : decode cX10_begin 10 = .ok (.aload_n 0, 1) := by decide +kernel
theorem dX10_begin_11 : decode cX10_begin 11 = .ok (.iconst 0, 1) := by decide +kernel
theorem dX10_begin_12 : decode cX10_begin 12 = .ok (.putfield 25, 3) := by decide +kernel
theorem dX10_begin_15 : decode cX10_begin 15 = .ok (.aload_n 0, 1) := by decide +kernel
theorem dX10_begin_16 : decode cX10_begin 16 = .ok (.iconst 0, 1) := by decide +kernel
theorem dX10_begin_17 : decode cX10_begin 17 = .ok (.putfield 40, 3) := by decide +kernel
theorem dX10_begin_20 : decode cX10_begin 20 = .ok (.aload_n 0, 1) := by decide +kernel
theorem dX10_begin_21 : decode cX10_begin 21 = .ok (.invokevirtual 55, 3) := by decide +kernel
theorem dX10_begin_24 : decode cX10_begin 24 = .ok (.return_, 1) := by decide +kernel
def f_X10_begin (S : Hp) : Option Hp :=
  le1 (ho_sI S 10 2 (0 : Int32)) (fun S1 => le1 (ho_sI S1 10 3 (-1 : Int32)) (fun S2 => le1 (ho_sI S2 10 4 (0 : Int32)) (fun S3 => le1 (ho_sI S3 10 9 (0 : Int32)) (fun S4 => ob (f_X10_next S4) (fun S5 => some S5)))))
set_option maxHeartbeats 4000000 in
set_option maxRecDepth 100000 in
theorem c_X10_begin (l : Launch) (E : Ev) (S : Hp) (r : Hp) (h : f_X10_begin S = some r) : ho_M l yH E yX10_begin cX10_begin 1 none 2 [.ref (E.2.1 10)] S (none, r) := by
  refine ho_in (by decide) (Nat.le_of_ble_eq_true rfl) ?_
  intro p e s m args below meth c C hR ls hl
  have C : ho_I p s m args meth c RX10 cX10_begin 1 none := C
  have hl : lv_has ls 1 [(0, .ref (E.2.1 10))] := hl
  unfold f_X10_begin at h
  refine lv_aload_n C.1 C.2.1 dX10_begin_0 rfl (lv_at hl 0 rfl) ?_
  refine lv_iconst (v := (0 : Int32)) C.1 C.2.1 dX10_begin_1 (by decide) ?_
  obtain ⟨S1, e1, h⟩ := le1_ok h
  refine hr_putI C cf10 fH_RX10_19 hR aH_10 e1 dX10_begin_2 (fun H locs hR => ?_)
  refine lv_aload_n C.1 C.2.1 dX10_begin_5 rfl (lv_at hl 0 rfl) ?_
  refine lv_iconst (v := (-1 : Int32)) C.1 C.2.1 dX10_begin_6 (by decide) ?_
  obtain ⟨S2, e2, h⟩ := le1_ok h
  refine hr_putI C cf10 fH_RX10_22 hR aH_10 e2 dX10_begin_7 (fun H locs hR => ?_)
  refine lv_aload_n C.1 C.2.1 dX10_begin_10 rfl (lv_at hl 0 rfl) ?_
  refine lv_iconst (v := (0 : Int32)) C.1 C.2.1 dX10_begin_11 (by decide) ?_
  obtain ⟨S3, e3, h⟩ := le1_ok h
  refine hr_putI C cf10 fH_RX10_25 hR aH_10 e3 dX10_begin_12 (fun H locs hR => ?_)
  refine lv_aload_n C.1 C.2.1 dX10_begin_15 rfl (lv_at hl 0 rfl) ?_
  refine lv_iconst (v := (0 : Int32)) C.1 C.2.1 dX10_begin_16 (by decide) ?_
  obtain ⟨S4, e4, h⟩ := le1_ok h
  refine hr_putI C cf10 fH_RX10_40 hR aH_10 e4 dX10_begin_17 (fun H locs hR => ?_)
  refine lv_aload_n C.1 C.2.1 dX10_begin_20 rfl (lv_at hl 0 rfl) ?_
  obtain ⟨S5, h5, h⟩ := ob_ok h
  refine hr_Vv (S' := S5) (As := []) (rest := []) C cf10 (c_X10_next l E _ _ h5) yv_X10_next lk_RX10_55 rfl aH_10 rfl rfl hl.1 (Nat.le_of_ble_eq_true rfl) (by decide) (by decide) hR (ho_A hR) dX10_begin_21 (fun H locs hR => ?_)
  exact ho_vret C hR h dX10_begin_24
theorem dX10_isWord_0 : decode cX10_isWord 0 = .ok (.aload_n 0, 1) := by decide +kernel
theorem dX10_isWord_1 : decode cX10_isWord 1 = .ok (.getfield 25, 3) := by decide +kernel
theorem dX10_isWord_4 : decode cX10_isWord 4 = .ok (.iconst 1, 1) := by decide +kernel
theorem dX10_isWord_5 : decode cX10_isWord 5 = .ok (.if_icmp .ne 15, 3) := by decide +kernel
theorem dX10_isWord_8 : decode cX10_isWord 8 = .ok (.aload_n 0, 1) := by decide +kernel
theorem dX10_isWord_9 : decode cX10_isWord 9 = .ok (.getfield 31, 3) := by decide +kernel
theorem dX10_isWord_12 : decode cX10_isWord 12 = .ok (.iload_n 1, 1) := by decide +kernel
theorem dX10_isWord_13 : decode cX10_isWord 13 = .ok (.if_icmp .ne 7, 3) := by decide +kernel
theorem dX10_isWord_16 : decode cX10_isWord 16 = .ok (.iconst 1, 1) := by decide +kernel
theorem dX10_isWord_17 : decode cX10_isWord 17 = .ok (.goto 4, 3) := by decide +kernel
theorem dX10_isWord_20 : decode cX10_isWord 20 = .ok (.iconst 0, 1) := by decide +kernel
theorem dX10_isWord_21 : decode cX10_isWord 21 = .ok (.ireturn, 1) := by decide +kernel
def f_X10_isWord (x1 : Int32) (S : Hp) : Option (Int32 × Hp) :=
  if (S.1 10 4) = (1 : Int32) then if (S.1 10 6) = x1 then some ((1 : Int32), S) else some ((0 : Int32), S) else some ((0 : Int32), S)
set_option maxHeartbeats 4000000 in
set_option maxRecDepth 100000 in
theorem c_X10_isWord (l : Launch) (E : Ev) (x1 : Int32) (S : Hp) (r : (Int32 × Hp)) (h : f_X10_isWord x1 S = some r) : ho_M l yH E yX10_isWord cX10_isWord 2 (some .boolean) 0 [.ref (E.2.1 10), .int x1] S (some (.int r.1), r.2) := by
  refine ho_in (by decide) (Nat.le_of_ble_eq_true rfl) ?_
  intro p e s m args below meth c C hR ls hl
  have C : ho_I p s m args meth c RX10 cX10_isWord 2 (some .boolean) := C
  have hl : lv_has ls 2 [(0, .ref (E.2.1 10)), (1, .int x1)] := hl
  unfold f_X10_isWord at h
  refine lv_aload_n C.1 C.2.1 dX10_isWord_0 rfl (lv_at hl 0 rfl) ?_
  refine ho_getI C cf10 fH_RX10_25 hR aH_10 dX10_isWord_1 ?_
  refine lv_iconst (v := (1 : Int32)) C.1 C.2.1 dX10_isWord_4 (by decide) ?_
  refine lv_icmp_ne (tgt := 20) C.1 C.2.1 dX10_isWord_5 (by decide) (fun hc => ?_) (fun hc => ?_)
  · replace h := if_f h hc
    refine lv_iconst (v := (0 : Int32)) C.1 C.2.1 dX10_isWord_20 (by decide) ?_
    exact ho_zret C hR (Or.inl rfl) h dX10_isWord_21
  · replace h := if_t h hc
    refine lv_aload_n C.1 C.2.1 dX10_isWord_8 rfl (lv_at hl 0 rfl) ?_
    refine ho_getI C cf10 fH_RX10_31 hR aH_10 dX10_isWord_9 ?_
    refine lv_iload_n C.1 C.2.1 dX10_isWord_12 rfl (lv_at hl 1 rfl) ?_
    refine lv_icmp_ne (tgt := 20) C.1 C.2.1 dX10_isWord_13 (by decide) (fun hc => ?_) (fun hc => ?_)
    · replace h := if_f h hc
      refine lv_iconst (v := (0 : Int32)) C.1 C.2.1 dX10_isWord_20 (by decide) ?_
      exact ho_zret C hR (Or.inl rfl) h dX10_isWord_21
    · replace h := if_t h hc
      refine lv_iconst (v := (1 : Int32)) C.1 C.2.1 dX10_isWord_16 (by decide) ?_
      refine lv_goto (tgt := 21) C.1 C.2.1 dX10_isWord_17 (by decide) ?_
      exact ho_zret C hR (Or.inr rfl) h dX10_isWord_21
theorem dX10_wrong_0 : decode cX10_wrong 0 = .ok (.aload_n 0, 1) := by decide +kernel
theorem dX10_wrong_1 : decode cX10_wrong 1 = .ok (.iload_n 1, 1) := by decide +kernel
theorem dX10_wrong_2 : decode cX10_wrong 2 = .ok (.putfield 19, 3) := by decide +kernel
theorem dX10_wrong_5 : decode cX10_wrong 5 = .ok (.aload_n 0, 1) := by decide +kernel
theorem dX10_wrong_6 : decode cX10_wrong 6 = .ok (.iload_n 2, 1) := by decide +kernel
theorem dX10_wrong_7 : decode cX10_wrong 7 = .ok (.putfield 22, 3) := by decide +kernel
theorem dX10_wrong_10 : decode cX10_wrong 10 = .ok (.iconst 0, 1) := by decide +kernel
theorem dX10_wrong_11 : decode cX10_wrong 11 = .ok (.ireturn, 1) := by decide +kernel
def f_X10_wrong (x1 : Int32) (x2 : Int32) (S : Hp) : Option (Int32 × Hp) :=
  le1 (ho_sI S 10 2 x1) (fun S1 => le1 (ho_sI S1 10 3 x2) (fun S2 => some ((0 : Int32), S2)))
set_option maxHeartbeats 4000000 in
set_option maxRecDepth 100000 in
theorem c_X10_wrong (l : Launch) (E : Ev) (x1 : Int32) (x2 : Int32) (S : Hp) (r : (Int32 × Hp)) (h : f_X10_wrong x1 x2 S = some r) : ho_M l yH E yX10_wrong cX10_wrong 3 (some .boolean) 0 [.ref (E.2.1 10), .int x1, .int x2] S (some (.int r.1), r.2) := by
  refine ho_in (by decide) (Nat.le_of_ble_eq_true rfl) ?_
  intro p e s m args below meth c C hR ls hl
  have C : ho_I p s m args meth c RX10 cX10_wrong 3 (some .boolean) := C
  have hl : lv_has ls 3 [(0, .ref (E.2.1 10)), (1, .int x1), (2, .int x2)] := hl
  unfold f_X10_wrong at h
  refine lv_aload_n C.1 C.2.1 dX10_wrong_0 rfl (lv_at hl 0 rfl) ?_
  refine lv_iload_n C.1 C.2.1 dX10_wrong_1 rfl (lv_at hl 1 rfl) ?_
  obtain ⟨S1, e1, h⟩ := le1_ok h
  refine hr_putI C cf10 fH_RX10_19 hR aH_10 e1 dX10_wrong_2 (fun H locs hR => ?_)
  refine lv_aload_n C.1 C.2.1 dX10_wrong_5 rfl (lv_at hl 0 rfl) ?_
  refine lv_iload_n C.1 C.2.1 dX10_wrong_6 rfl (lv_at hl 2 rfl) ?_
  obtain ⟨S2, e2, h⟩ := le1_ok h
  refine hr_putI C cf10 fH_RX10_22 hR aH_10 e2 dX10_wrong_7 (fun H locs hR => ?_)
  refine lv_iconst (v := (0 : Int32)) C.1 C.2.1 dX10_wrong_10 (by decide) ?_
  exact ho_zret C hR (Or.inl rfl) h dX10_wrong_11
theorem dX10_takeWord_0 : decode cX10_takeWord 0 = .ok (.aload_n 0, 1) := by decide +kernel
theorem dX10_takeWord_1 : decode cX10_takeWord 1 = .ok (.iload_n 1, 1) := by decide +kernel
theorem dX10_takeWord_2 : decode cX10_takeWord 2 = .ok (.invokevirtual 64, 3) := by decide +kernel
theorem dX10_takeWord_5 : decode cX10_takeWord 5 = .ok (.ifCond .ne 13, 3) := by decide +kernel
theorem dX10_takeWord_8 : decode cX10_takeWord 8 = .ok (.aload_n 0, 1) := by decide +kernel
theorem dX10_takeWord_9 : decode cX10_takeWord 9 = .ok (.iconst 1, 1) := by decide +kernel
theorem dX10_takeWord_10 : decode cX10_takeWord 10 = .ok (.aload_n 0, 1) := by decide +kernel
theorem dX10_takeWord_11 : decode cX10_takeWord 11 = .ok (.getfield 28, 3) := by decide +kernel
theorem dX10_takeWord_14 : decode cX10_takeWord 14 = .ok (.invokevirtual 68, 3) := by decide +kernel
theorem dX10_takeWord_17 : decode cX10_takeWord 17 = .ok (.ireturn, 1) := by decide +kernel
theorem dX10_takeWord_18 : decode cX10_takeWord 18 = .ok (.aload_n 0, 1) := by decide +kernel
theorem dX10_takeWord_19 : decode cX10_takeWord 19 = .ok (.invokevirtual 55, 3) := by decide +kernel
theorem dX10_takeWord_22 : decode cX10_takeWord 22 = .ok (.iconst 1, 1) := by decide +kernel
theorem dX10_takeWord_23 : decode cX10_takeWord 23 = .ok (.ireturn, 1) := by decide +kernel
def f_X10_takeWord (x1 : Int32) (S : Hp) : Option (Int32 × Hp) :=
  ob2 (f_X10_isWord x1 S) (fun r1 S1 => if r1 = 0 then ob2 (f_X10_wrong (1 : Int32) (S1.1 10 5) S1) (fun r3 S3 => tr r3 (some (r3, S3))) else ob (f_X10_next S1) (fun S2 => some ((1 : Int32), S2)))
set_option maxHeartbeats 4000000 in
set_option maxRecDepth 100000 in
theorem c_X10_takeWord (l : Launch) (E : Ev) (x1 : Int32) (S : Hp) (r : (Int32 × Hp)) (h : f_X10_takeWord x1 S = some r) : ho_M l yH E yX10_takeWord cX10_takeWord 2 (some .boolean) 2 [.ref (E.2.1 10), .int x1] S (some (.int r.1), r.2) := by
  refine ho_in (by decide) (Nat.le_of_ble_eq_true rfl) ?_
  intro p e s m args below meth c C hR ls hl
  have C : ho_I p s m args meth c RX10 cX10_takeWord 2 (some .boolean) := C
  have hl : lv_has ls 2 [(0, .ref (E.2.1 10)), (1, .int x1)] := hl
  unfold f_X10_takeWord at h
  refine lv_aload_n C.1 C.2.1 dX10_takeWord_0 rfl (lv_at hl 0 rfl) ?_
  refine lv_iload_n C.1 C.2.1 dX10_takeWord_1 rfl (lv_at hl 1 rfl) ?_
  obtain ⟨r1, S1, h1, h⟩ := ob2_ok h
  refine hr_Vi (v := r1) (S' := S1) (As := [.int x1]) (rest := []) C cf10 (c_X10_isWord l E x1 _ _ h1) yv_X10_isWord lk_RX10_64 rfl aH_10 rfl rfl hl.1 (Nat.le_of_ble_eq_true rfl) (by decide) (by decide) hR (ho_A hR) dX10_takeWord_2 (fun H locs hR => ?_)
  refine lv_if_ne (tgt := 18) C.1 C.2.1 dX10_takeWord_5 (by decide) (fun hc => ?_) (fun hc => ?_)
  · replace h := if_f h hc
    refine lv_aload_n C.1 C.2.1 dX10_takeWord_18 rfl (lv_at hl 0 rfl) ?_
    obtain ⟨S2, h2, h⟩ := ob_ok h
    refine hr_Vv (S' := S2) (As := []) (rest := []) C cf10 (c_X10_next l E _ _ h2) yv_X10_next lk_RX10_55 rfl aH_10 rfl rfl hl.1 (Nat.le_of_ble_eq_true rfl) (by decide) (by decide) hR (ho_A hR) dX10_takeWord_19 (fun H locs hR => ?_)
    refine lv_iconst (v := (1 : Int32)) C.1 C.2.1 dX10_takeWord_22 (by decide) ?_
    exact ho_zret C hR (Or.inr rfl) h dX10_takeWord_23
  · replace h := if_t h hc
    refine lv_aload_n C.1 C.2.1 dX10_takeWord_8 rfl (lv_at hl 0 rfl) ?_
    refine lv_iconst (v := (1 : Int32)) C.1 C.2.1 dX10_takeWord_9 (by decide) ?_
    refine lv_aload_n C.1 C.2.1 dX10_takeWord_10 rfl (lv_at hl 0 rfl) ?_
    refine ho_getI C cf10 fH_RX10_28 hR aH_10 dX10_takeWord_11 ?_
    obtain ⟨r3, S3, h3, h⟩ := ob2_ok h
    refine hr_Vi (v := r3) (S' := S3) (As := [.int (1 : Int32), .int (S1.1 10 5)]) (rest := []) C cf10 (c_X10_wrong l E (1 : Int32) (S1.1 10 5) _ _ h3) yv_X10_wrong lk_RX10_68 rfl aH_10 rfl rfl hl.1 (Nat.le_of_ble_eq_true rfl) (by decide) (by decide) hR (ho_A hR) dX10_takeWord_14 (fun H locs hR => ?_)
    obtain ⟨hz, h⟩ := tr_ok h
    exact ho_zret C hR hz h dX10_takeWord_17
theorem dX10_takeNumber_0 : decode cX10_takeNumber 0 = .ok (.aload_n 0, 1) := by decide +kernel
theorem dX10_takeNumber_1 : decode cX10_takeNumber 1 = .ok (.getfield 25, 3) := by decide +kernel
theorem dX10_takeNumber_4 : decode cX10_takeNumber 4 = .ok (.iconst 2, 1) := by decide +kernel
theorem dX10_takeNumber_5 : decode cX10_takeNumber 5 = .ok (.if_icmp .eq 13, 3) := by decide +kernel
theorem dX10_takeNumber_8 : decode cX10_takeNumber 8 = .ok (.aload_n 0, 1) := by decide +kernel
theorem dX10_takeNumber_9 : decode cX10_takeNumber 9 = .ok (.iconst 1, 1) := by decide +kernel
theorem dX10_takeNumber_10 : decode cX10_takeNumber 10 = .ok (.aload_n 0, 1) := by decide +kernel
theorem dX10_takeNumber_11 : decode cX10_takeNumber 11 = .ok (.getfield 28, 3) := by decide +kernel
theorem dX10_takeNumber_14 : decode cX10_takeNumber 14 = .ok (.invokevirtual 68, 3) := by decide +kernel
theorem dX10_takeNumber_17 : decode cX10_takeNumber 17 = .ok (.ireturn, 1) := by decide +kernel
theorem dX10_takeNumber_18 : decode cX10_takeNumber 18 = .ok (.aload_n 0, 1) := by decide +kernel
theorem dX10_takeNumber_19 : decode cX10_takeNumber 19 = .ok (.getfield 40, 3) := by decide +kernel
theorem dX10_takeNumber_22 : decode cX10_takeNumber 22 = .ok (.aload_n 0, 1) := by decide +kernel
theorem dX10_takeNumber_23 : decode cX10_takeNumber 23 = .ok (.getfield 28, 3) := by decide +kernel
theorem dX10_takeNumber_26 : decode cX10_takeNumber 26 = .ok (.isub, 1) := by decide +kernel
theorem dX10_takeNumber_27 : decode cX10_takeNumber 27 = .ok (.iconst 4, 1) := by decide +kernel
theorem dX10_takeNumber_28 : decode cX10_takeNumber 28 = .ok (.if_icmp .le 15, 3) := by decide +kernel
theorem dX10_takeNumber_31 : decode cX10_takeNumber 31 = .ok (.aload_n 0, 1) := by decide +kernel
theorem dX10_takeNumber_32 : decode cX10_takeNumber 32 = .ok (.iconst 1, 1) := by decide +kernel
theorem dX10_takeNumber_33 : decode cX10_takeNumber 33 = .ok (.aload_n 0, 1) := by decide +kernel
theorem dX10_takeNumber_34 : decode cX10_takeNumber 34 = .ok (.getfield 28, 3) := by decide +kernel
theorem dX10_takeNumber_37 : decode cX10_takeNumber 37 = .ok (.iconst 4, 1) := by decide +kernel
theorem dX10_takeNumber_38 : decode cX10_takeNumber 38 = .ok (.iadd, 1) := by decide +kernel
theorem dX10_takeNumber_39 : decode cX10_takeNumber 39 = .ok (.invokevirtual 68, 3) := by decide +kernel
theorem dX10_takeNumber_42 : decode cX10_takeNumber 42 = .ok (.ireturn, 1) := by decide +kernel
theorem dX10_takeNumber_43 : decode cX10_takeNumber 43 = .ok (.aload_n 0, 1) := by decide +kernel
theorem dX10_takeNumber_44 : decode cX10_takeNumber 44 = .ok (.getfield 31, 3) := by decide +kernel
theorem dX10_takeNumber_47 : decode cX10_takeNumber 47 = .ok (.iload_n 1, 1) := by decide +kernel
theorem dX10_takeNumber_48 : decode cX10_takeNumber 48 = .ok (.if_icmp .lt 11, 3) := by decide +kernel
theorem dX10_takeNumber_51 : decode cX10_takeNumber 51 = .ok (.aload_n 0, 1) := by decide +kernel
theorem dX10_takeNumber_52 : decode cX10_takeNumber 52 = .ok (.getfield 31, 3) := by decide +kernel
theorem dX10_takeNumber_55 : decode cX10_takeNumber 55 = .ok (.iload_n 2, 1) := by decide +kernel
theorem dX10_takeNumber_56 : decode cX10_takeNumber 56 = .ok (.if_icmp .le 13, 3) := by decide +kernel
theorem dX10_takeNumber_59 : decode cX10_takeNumber 59 = .ok (.aload_n 0, 1) := by decide +kernel
theorem dX10_takeNumber_60 : decode cX10_takeNumber 60 = .ok (.iconst 2, 1) := by decide +kernel
theorem dX10_takeNumber_61 : decode cX10_takeNumber 61 = .ok (.aload_n 0, 1) := by decide +kernel
theorem dX10_takeNumber_62 : decode cX10_takeNumber 62 = .ok (.getfield 28, 3) := by decide +kernel
theorem dX10_takeNumber_65 : decode cX10_takeNumber 65 = .ok (.invokevirtual 68, 3) := by decide +kernel
theorem dX10_takeNumber_68 : decode cX10_takeNumber 68 = .ok (.ireturn, 1) := by decide +kernel
theorem dX10_takeNumber_69 : decode cX10_takeNumber 69 = .ok (.aload_n 0, 1) := by decide +kernel
theorem dX10_takeNumber_70 : decode cX10_takeNumber 70 = .ok (.aload_n 0, 1) := by decide +kernel
theorem dX10_takeNumber_71 : decode cX10_takeNumber 71 = .ok (.getfield 31, 3) := by decide +kernel
theorem dX10_takeNumber_74 : decode cX10_takeNumber 74 = .ok (.putfield 37, 3) := by decide +kernel
theorem dX10_takeNumber_77 : decode cX10_takeNumber 77 = .ok (.aload_n 0, 1) := by decide +kernel
theorem dX10_takeNumber_78 : decode cX10_takeNumber 78 = .ok (.invokevirtual 55, 3) := by decide +kernel
theorem dX10_takeNumber_81 : decode cX10_takeNumber 81 = .ok (.iconst 1, 1) := by decide +kernel
theorem dX10_takeNumber_82 : decode cX10_takeNumber 82 = .ok (.ireturn, 1) := by decide +kernel
def f_X10_takeNumber_59 (S : Hp) : Option (Int32 × Hp) :=
  ob2 (f_X10_wrong (2 : Int32) (S.1 10 5) S) (fun r1 S1 => tr r1 (some (r1, S1)))
set_option maxHeartbeats 4000000 in
set_option maxRecDepth 100000 in
theorem w_X10_takeNumber_59 {p : Program} {l : Launch} {e : Env} {s : State} {m : MethodId} {args : Array Value} {below : List Frame} {meth : Method} {c : Code} {E : Ev} {S0 : Hp} {r : (Int32 × Hp)} (C : ho_I p s m args meth c RX10 cX10_takeNumber 3 (some .boolean)) :
    ∀ (S : Hp), f_X10_takeNumber_59 S = some r → ho_G p l e s m args below meth c yH E S0 2 3 (some (.int r.1), r.2) 59 [(0, .ref (E.2.1 10))] [] S := by
  intro S h H locs ls hR hl
  unfold f_X10_takeNumber_59 at h
  refine lv_aload_n C.1 C.2.1 dX10_takeNumber_59 rfl (lv_at hl 0 rfl) ?_
  refine lv_iconst (v := (2 : Int32)) C.1 C.2.1 dX10_takeNumber_60 (by decide) ?_
  refine lv_aload_n C.1 C.2.1 dX10_takeNumber_61 rfl (lv_at hl 0 rfl) ?_
  refine ho_getI C cf10 fH_RX10_28 hR aH_10 dX10_takeNumber_62 ?_
  obtain ⟨r1, S1, h1, h⟩ := ob2_ok h
  refine hr_Vi (v := r1) (S' := S1) (As := [.int (2 : Int32), .int (S.1 10 5)]) (rest := []) C cf10 (c_X10_wrong l E (2 : Int32) (S.1 10 5) _ _ h1) yv_X10_wrong lk_RX10_68 rfl aH_10 rfl rfl hl.1 (Nat.le_of_ble_eq_true rfl) (by decide) (by decide) hR (ho_A hR) dX10_takeNumber_65 (fun H locs hR => ?_)
  obtain ⟨hz, h⟩ := tr_ok h
  exact ho_zret C hR hz h dX10_takeNumber_68
def f_X10_takeNumber (x1 : Int32) (x2 : Int32) (S : Hp) : Option (Int32 × Hp) :=
  if (S.1 10 4) = (2 : Int32) then if ((S.1 10 9) - (S.1 10 5)) ≤ (4 : Int32) then if (S.1 10 6) < x1 then f_X10_takeNumber_59 S else if (S.1 10 6) ≤ x2 then le1 (ho_sI S 10 8 (S.1 10 6)) (fun S1 => ob (f_X10_next S1) (fun S2 => some ((1 : Int32), S2))) else f_X10_takeNumber_59 S else ob2 (f_X10_wrong (1 : Int32) ((S.1 10 5) + (4 : Int32)) S) (fun r3 S3 => tr r3 (some (r3, S3))) else ob2 (f_X10_wrong (1 : Int32) (S.1 10 5) S) (fun r4 S4 => tr r4 (some (r4, S4)))
set_option maxHeartbeats 4000000 in
set_option maxRecDepth 100000 in
theorem c_X10_takeNumber (l : Launch) (E : Ev) (x1 : Int32) (x2 : Int32) (S : Hp) (r : (Int32 × Hp)) (h : f_X10_takeNumber x1 x2 S = some r) : ho_M l yH E yX10_takeNumber cX10_takeNumber 3 (some .boolean) 2 [.ref (E.2.1 10), .int x1, .int x2] S (some (.int r.1), r.2) := by
  refine ho_in (by decide) (Nat.le_of_ble_eq_true rfl) ?_
  intro p e s m args below meth c C hR ls hl
  have C : ho_I p s m args meth c RX10 cX10_takeNumber 3 (some .boolean) := C
  have hl : lv_has ls 3 [(0, .ref (E.2.1 10)), (1, .int x1), (2, .int x2)] := hl
  unfold f_X10_takeNumber at h
  refine lv_aload_n C.1 C.2.1 dX10_takeNumber_0 rfl (lv_at hl 0 rfl) ?_
  refine ho_getI C cf10 fH_RX10_25 hR aH_10 dX10_takeNumber_1 ?_
  refine lv_iconst (v := (2 : Int32)) C.1 C.2.1 dX10_takeNumber_4 (by decide) ?_
  refine lv_icmp_eq (tgt := 18) C.1 C.2.1 dX10_takeNumber_5 (by decide) (fun hc => ?_) (fun hc => ?_)
  · replace h := if_t h hc
    refine lv_aload_n C.1 C.2.1 dX10_takeNumber_18 rfl (lv_at hl 0 rfl) ?_
    refine ho_getI C cf10 fH_RX10_40 hR aH_10 dX10_takeNumber_19 ?_
    refine lv_aload_n C.1 C.2.1 dX10_takeNumber_22 rfl (lv_at hl 0 rfl) ?_
    refine ho_getI C cf10 fH_RX10_28 hR aH_10 dX10_takeNumber_23 ?_
    refine lv_isub C.1 C.2.1 dX10_takeNumber_26 ?_
    refine lv_iconst (v := (4 : Int32)) C.1 C.2.1 dX10_takeNumber_27 (by decide) ?_
    refine lv_icmp_le (tgt := 43) C.1 C.2.1 dX10_takeNumber_28 (by decide) (fun hc => ?_) (fun hc => ?_)
    · replace h := if_t h hc
      refine lv_aload_n C.1 C.2.1 dX10_takeNumber_43 rfl (lv_at hl 0 rfl) ?_
      refine ho_getI C cf10 fH_RX10_31 hR aH_10 dX10_takeNumber_44 ?_
      refine lv_iload_n C.1 C.2.1 dX10_takeNumber_47 rfl (lv_at hl 1 rfl) ?_
      refine lv_icmp_lt (tgt := 59) C.1 C.2.1 dX10_takeNumber_48 (by decide) (fun hc => ?_) (fun hc => ?_)
      · replace h := if_t h hc
        exact w_X10_takeNumber_59 C S h _ _ _ hR (lv_sub hl [0] rfl)
      · replace h := if_f h hc
        refine lv_aload_n C.1 C.2.1 dX10_takeNumber_51 rfl (lv_at hl 0 rfl) ?_
        refine ho_getI C cf10 fH_RX10_31 hR aH_10 dX10_takeNumber_52 ?_
        refine lv_iload_n C.1 C.2.1 dX10_takeNumber_55 rfl (lv_at hl 2 rfl) ?_
        refine lv_icmp_le (tgt := 69) C.1 C.2.1 dX10_takeNumber_56 (by decide) (fun hc => ?_) (fun hc => ?_)
        · replace h := if_t h hc
          refine lv_aload_n C.1 C.2.1 dX10_takeNumber_69 rfl (lv_at hl 0 rfl) ?_
          refine lv_aload_n C.1 C.2.1 dX10_takeNumber_70 rfl (lv_at hl 0 rfl) ?_
          refine ho_getI C cf10 fH_RX10_31 hR aH_10 dX10_takeNumber_71 ?_
          obtain ⟨S1, e1, h⟩ := le1_ok h
          refine hr_putI C cf10 fH_RX10_37 hR aH_10 e1 dX10_takeNumber_74 (fun H locs hR => ?_)
          refine lv_aload_n C.1 C.2.1 dX10_takeNumber_77 rfl (lv_at hl 0 rfl) ?_
          obtain ⟨S2, h2, h⟩ := ob_ok h
          refine hr_Vv (S' := S2) (As := []) (rest := []) C cf10 (c_X10_next l E _ _ h2) yv_X10_next lk_RX10_55 rfl aH_10 rfl rfl hl.1 (Nat.le_of_ble_eq_true rfl) (by decide) (by decide) hR (ho_A hR) dX10_takeNumber_78 (fun H locs hR => ?_)
          refine lv_iconst (v := (1 : Int32)) C.1 C.2.1 dX10_takeNumber_81 (by decide) ?_
          exact ho_zret C hR (Or.inr rfl) h dX10_takeNumber_82
        · replace h := if_f h hc
          exact w_X10_takeNumber_59 C S h _ _ _ hR (lv_sub hl [0] rfl)
    · replace h := if_f h hc
      refine lv_aload_n C.1 C.2.1 dX10_takeNumber_31 rfl (lv_at hl 0 rfl) ?_
      refine lv_iconst (v := (1 : Int32)) C.1 C.2.1 dX10_takeNumber_32 (by decide) ?_
      refine lv_aload_n C.1 C.2.1 dX10_takeNumber_33 rfl (lv_at hl 0 rfl) ?_
      refine ho_getI C cf10 fH_RX10_28 hR aH_10 dX10_takeNumber_34 ?_
      refine lv_iconst (v := (4 : Int32)) C.1 C.2.1 dX10_takeNumber_37 (by decide) ?_
      refine lv_iadd C.1 C.2.1 dX10_takeNumber_38 ?_
      obtain ⟨r3, S3, h3, h⟩ := ob2_ok h
      refine hr_Vi (v := r3) (S' := S3) (As := [.int (1 : Int32), .int ((S.1 10 5) + (4 : Int32))]) (rest := []) C cf10 (c_X10_wrong l E (1 : Int32) ((S.1 10 5) + (4 : Int32)) _ _ h3) yv_X10_wrong lk_RX10_68 rfl aH_10 rfl rfl hl.1 (Nat.le_of_ble_eq_true rfl) (by decide) (by decide) hR (ho_A hR) dX10_takeNumber_39 (fun H locs hR => ?_)
      obtain ⟨hz, h⟩ := tr_ok h
      exact ho_zret C hR hz h dX10_takeNumber_42
  · replace h := if_f h hc
    refine lv_aload_n C.1 C.2.1 dX10_takeNumber_8 rfl (lv_at hl 0 rfl) ?_
    refine lv_iconst (v := (1 : Int32)) C.1 C.2.1 dX10_takeNumber_9 (by decide) ?_
    refine lv_aload_n C.1 C.2.1 dX10_takeNumber_10 rfl (lv_at hl 0 rfl) ?_
    refine ho_getI C cf10 fH_RX10_28 hR aH_10 dX10_takeNumber_11 ?_
    obtain ⟨r4, S4, h4, h⟩ := ob2_ok h
    refine hr_Vi (v := r4) (S' := S4) (As := [.int (1 : Int32), .int (S.1 10 5)]) (rest := []) C cf10 (c_X10_wrong l E (1 : Int32) (S.1 10 5) _ _ h4) yv_X10_wrong lk_RX10_68 rfl aH_10 rfl rfl hl.1 (Nat.le_of_ble_eq_true rfl) (by decide) (by decide) hR (ho_A hR) dX10_takeNumber_14 (fun H locs hR => ?_)
    obtain ⟨hz, h⟩ := tr_ok h
    exact ho_zret C hR hz h dX10_takeNumber_17
theorem dX3_treasury_0 : decode cX3_treasury 0 = .ok (.aload_n 0, 1) := by decide +kernel
theorem dX3_treasury_1 : decode cX3_treasury 1 = .ok (.getfield 20, 3) := by decide +kernel
theorem dX3_treasury_4 : decode cX3_treasury 4 = .ok (.iconst 0, 1) := by decide +kernel
theorem dX3_treasury_5 : decode cX3_treasury 5 = .ok (.invokevirtual 70, 3) := by decide +kernel
theorem dX3_treasury_8 : decode cX3_treasury 8 = .ok (.ifCond .eq 17, 3) := by decide +kernel
theorem dX3_treasury_11 : decode cX3_treasury 11 = .ok (.aload_n 0, 1) := by decide +kernel
theorem dX3_treasury_12 : decode cX3_treasury 12 = .ok (.getfield 20, 3) := by decide +kernel
theorem dX3_treasury_15 : decode cX3_treasury 15 = .ok (.iconst 0, 1) := by decide +kernel
theorem dX3_treasury_16 : decode cX3_treasury 16 = .ok (.sipush 9999, 3) := by decide +kernel
theorem dX3_treasury_19 : decode cX3_treasury 19 = .ok (.invokevirtual 74, 3) := by decide +kernel
theorem dX3_treasury_22 : decode cX3_treasury 22 = .ok (.ifCond .ne 5, 3) := by decide +kernel
theorem dX3_treasury_25 : decode cX3_treasury 25 = .ok (.iconst 0, 1) := by decide +kernel
theorem dX3_treasury_26 : decode cX3_treasury 26 = .ok (.ireturn, 1) := by decide +kernel
theorem dX3_treasury_27 : decode cX3_treasury 27 = .ok (.aload_n 0, 1) := by decide +kernel
theorem dX3_treasury_28 : decode cX3_treasury 28 = .ok (.getfield 24, 3) := by decide +kernel
theorem dX3_treasury_31 : decode cX3_treasury 31 = .ok (.aload_n 0, 1) := by decide +kernel
theorem dX3_treasury_32 : decode cX3_treasury 32 = .ok (.getfield 20, 3) := by decide +kernel
theorem dX3_treasury_35 : decode cX3_treasury 35 = .ok (.getfield 77, 3) := by decide +kernel
theorem dX3_treasury_38 : decode cX3_treasury 38 = .ok (.putfield 80, 3) := by decide +kernel
theorem dX3_treasury_41 : decode cX3_treasury 41 = .ok (.aload_n 0, 1) := by decide +kernel
theorem dX3_treasury_42 : decode cX3_treasury 42 = .ok (.getfield 20, 3) := by decide +kernel
theorem dX3_treasury_45 : decode cX3_treasury 45 = .ok (.iconst 1, 1) := by decide +kernel
theorem dX3_treasury_46 : decode cX3_treasury 46 = .ok (.invokevirtual 70, 3) := by decide +kernel
theorem dX3_treasury_49 : decode cX3_treasury 49 = .ok (.ifCond .eq 17, 3) := by decide +kernel
theorem dX3_treasury_52 : decode cX3_treasury 52 = .ok (.aload_n 0, 1) := by decide +kernel
theorem dX3_treasury_53 : decode cX3_treasury 53 = .ok (.getfield 20, 3) := by decide +kernel
theorem dX3_treasury_56 : decode cX3_treasury 56 = .ok (.iconst 0, 1) := by decide +kernel
theorem dX3_treasury_57 : decode cX3_treasury 57 = .ok (.sipush 9999, 3) := by decide +kernel
theorem dX3_treasury_60 : decode cX3_treasury 60 = .ok (.invokevirtual 74, 3) := by decide +kernel
theorem dX3_treasury_63 : decode cX3_treasury 63 = .ok (.ifCond .ne 5, 3) := by decide +kernel
theorem dX3_treasury_66 : decode cX3_treasury 66 = .ok (.iconst 0, 1) := by decide +kernel
theorem dX3_treasury_67 : decode cX3_treasury 67 = .ok (.ireturn, 1) := by decide +kernel
theorem dX3_treasury_68 : decode cX3_treasury 68 = .ok (.aload_n 0, 1) := by decide +kernel
theorem dX3_treasury_69 : decode cX3_treasury 69 = .ok (.getfield 24, 3) := by decide +kernel
theorem dX3_treasury_72 : decode cX3_treasury 72 = .ok (.aload_n 0, 1) := by decide +kernel
theorem dX3_treasury_73 : decode cX3_treasury 73 = .ok (.getfield 20, 3) := by decide +kernel
theorem dX3_treasury_76 : decode cX3_treasury 76 = .ok (.getfield 77, 3) := by decide +kernel
theorem dX3_treasury_79 : decode cX3_treasury 79 = .ok (.putfield 83, 3) := by decide +kernel
theorem dX3_treasury_82 : decode cX3_treasury 82 = .ok (.aload_n 0, 1) := by decide +kernel
theorem dX3_treasury_83 : decode cX3_treasury 83 = .ok (.getfield 20, 3) := by decide +kernel
theorem dX3_treasury_86 : decode cX3_treasury 86 = .ok (.iconst 2, 1) := by decide +kernel
theorem dX3_treasury_87 : decode cX3_treasury 87 = .ok (.invokevirtual 70, 3) := by decide +kernel
theorem dX3_treasury_90 : decode cX3_treasury 90 = .ok (.ifCond .eq 16, 3) := by decide +kernel
theorem dX3_treasury_93 : decode cX3_treasury 93 = .ok (.aload_n 0, 1) := by decide +kernel
theorem dX3_treasury_94 : decode cX3_treasury 94 = .ok (.getfield 20, 3) := by decide +kernel
theorem dX3_treasury_97 : decode cX3_treasury 97 = .ok (.iconst 0, 1) := by decide +kernel
theorem dX3_treasury_98 : decode cX3_treasury 98 = .ok (.bipush 99, 2) := by decide +kernel
theorem dX3_treasury_100 : decode cX3_treasury 100 = .ok (.invokevirtual 74, 3) := by decide +kernel
theorem dX3_treasury_103 : decode cX3_treasury 103 = .ok (.ifCond .ne 5, 3) := by decide +kernel
theorem dX3_treasury_106 : decode cX3_treasury 106 = .ok (.iconst 0, 1) := by decide +kernel
theorem dX3_treasury_107 : decode cX3_treasury 107 = .ok (.ireturn, 1) := by decide +kernel
theorem dX3_treasury_108 : decode cX3_treasury 108 = .ok (.aload_n 0, 1) := by decide +kernel
theorem dX3_treasury_109 : decode cX3_treasury 109 = .ok (.getfield 24, 3) := by decide +kernel
theorem dX3_treasury_112 : decode cX3_treasury 112 = .ok (.aload_n 0, 1) := by decide +kernel
theorem dX3_treasury_113 : decode cX3_treasury 113 = .ok (.getfield 20, 3) := by decide +kernel
theorem dX3_treasury_116 : decode cX3_treasury 116 = .ok (.getfield 77, 3) := by decide +kernel
theorem dX3_treasury_119 : decode cX3_treasury 119 = .ok (.putfield 86, 3) := by decide +kernel
theorem dX3_treasury_122 : decode cX3_treasury 122 = .ok (.iconst 1, 1) := by decide +kernel
theorem dX3_treasury_123 : decode cX3_treasury 123 = .ok (.ireturn, 1) := by decide +kernel
def f_X3_treasury (S : Hp) : Option (Int32 × Hp) :=
  ob2 (f_X10_takeWord (0 : Int32) S) (fun r1 S1 => if r1 = 0 then some ((0 : Int32), S1) else ob2 (f_X10_takeNumber (0 : Int32) (9999 : Int32) S1) (fun r2 S2 => if r2 = 0 then some ((0 : Int32), S2) else ldP yH S2 20 2 2 (fun p3 => le1 (ho_sI S2 p3 0 (S2.1 10 8)) (fun S4 => ob2 (f_X10_takeWord (1 : Int32) S4) (fun r5 S5 => if r5 = 0 then some ((0 : Int32), S5) else ob2 (f_X10_takeNumber (0 : Int32) (9999 : Int32) S5) (fun r6 S6 => if r6 = 0 then some ((0 : Int32), S6) else ldP yH S6 20 2 2 (fun p7 => le1 (ho_sI S6 p7 1 (S6.1 10 8)) (fun S8 => ob2 (f_X10_takeWord (2 : Int32) S8) (fun r9 S9 => if r9 = 0 then some ((0 : Int32), S9) else ob2 (f_X10_takeNumber (0 : Int32) (99 : Int32) S9) (fun r10 S10 => if r10 = 0 then some ((0 : Int32), S10) else ldP yH S10 20 2 2 (fun p11 => le1 (ho_sI S10 p11 2 (S10.1 10 8)) (fun S12 => some ((1 : Int32), S12)))))))))))))
set_option maxHeartbeats 4000000 in
set_option maxRecDepth 100000 in
theorem c_X3_treasury (l : Launch) (E : Ev) (S : Hp) (r : (Int32 × Hp)) (h : f_X3_treasury S = some r) : ho_M l yH E yX3_treasury cX3_treasury 1 (some .boolean) 3 [.ref (E.2.1 20)] S (some (.int r.1), r.2) := by
  refine ho_in (by decide) (Nat.le_of_ble_eq_true rfl) ?_
  intro p e s m args below meth c C hR ls hl
  have C : ho_I p s m args meth c RX3 cX3_treasury 1 (some .boolean) := C
  have hl : lv_has ls 1 [(0, .ref (E.2.1 20))] := hl
  unfold f_X3_treasury at h
  refine lv_aload_n C.1 C.2.1 dX3_treasury_0 rfl (lv_at hl 0 rfl) ?_
  refine ho_getR (a' := 10) C cf3 fH_RX3_20 hR aH_20 rfl dX3_treasury_1 ?_
  refine lv_iconst (v := (0 : Int32)) C.1 C.2.1 dX3_treasury_4 (by decide) ?_
  obtain ⟨r1, S1, h1, h⟩ := ob2_ok h
  refine hr_Vi (v := r1) (S' := S1) (As := [.int (0 : Int32)]) (rest := []) C cf10 (c_X10_takeWord l E (0 : Int32) _ _ h1) yv_X10_takeWord lk_RX3_70 rfl aH_10 rfl rfl hl.1 (Nat.le_of_ble_eq_true rfl) (by decide) (by decide) hR (ho_A hR) dX3_treasury_5 (fun H locs hR => ?_)
  refine lv_if_eq (tgt := 25) C.1 C.2.1 dX3_treasury_8 (by decide) (fun hc => ?_) (fun hc => ?_)
  · replace h := if_t h hc
    refine lv_iconst (v := (0 : Int32)) C.1 C.2.1 dX3_treasury_25 (by decide) ?_
    exact ho_zret C hR (Or.inl rfl) h dX3_treasury_26
  · replace h := if_f h hc
    refine lv_aload_n C.1 C.2.1 dX3_treasury_11 rfl (lv_at hl 0 rfl) ?_
    refine ho_getR (a' := 10) C cf3 fH_RX3_20 hR aH_20 rfl dX3_treasury_12 ?_
    refine lv_iconst (v := (0 : Int32)) C.1 C.2.1 dX3_treasury_15 (by decide) ?_
    refine lv_sipush (v := (9999 : Int32)) C.1 C.2.1 dX3_treasury_16 (by decide) ?_
    obtain ⟨r2, S2, h2, h⟩ := ob2_ok h
    refine hr_Vi (v := r2) (S' := S2) (As := [.int (0 : Int32), .int (9999 : Int32)]) (rest := []) C cf10 (c_X10_takeNumber l E (0 : Int32) (9999 : Int32) _ _ h2) yv_X10_takeNumber lk_RX3_74 rfl aH_10 rfl rfl hl.1 (Nat.le_of_ble_eq_true rfl) (by decide) (by decide) hR (ho_A hR) dX3_treasury_19 (fun H locs hR => ?_)
    refine lv_if_ne (tgt := 27) C.1 C.2.1 dX3_treasury_22 (by decide) (fun hc => ?_) (fun hc => ?_)
    · replace h := if_f h hc
      refine lv_aload_n C.1 C.2.1 dX3_treasury_27 rfl (lv_at hl 0 rfl) ?_
      obtain ⟨p3, e3, hp3, h⟩ := ldP_ok h
      refine hr_getP C cf3 fH_RX3_24 hR aH_20 e3 dX3_treasury_28 ?_
      refine lv_aload_n C.1 C.2.1 dX3_treasury_31 rfl (lv_at hl 0 rfl) ?_
      refine ho_getR (a' := 10) C cf3 fH_RX3_20 hR aH_20 rfl dX3_treasury_32 ?_
      refine ho_getI C cf10 fH_RX3_77 hR aH_10 dX3_treasury_35 ?_
      obtain ⟨S4, e4, h⟩ := le1_ok h
      refine hr_putI C cf2 fH_RX3_80 hR hp3 e4 dX3_treasury_38 (fun H locs hR => ?_)
      refine lv_aload_n C.1 C.2.1 dX3_treasury_41 rfl (lv_at hl 0 rfl) ?_
      refine ho_getR (a' := 10) C cf3 fH_RX3_20 hR aH_20 rfl dX3_treasury_42 ?_
      refine lv_iconst (v := (1 : Int32)) C.1 C.2.1 dX3_treasury_45 (by decide) ?_
      obtain ⟨r5, S5, h5, h⟩ := ob2_ok h
      refine hr_Vi (v := r5) (S' := S5) (As := [.int (1 : Int32)]) (rest := []) C cf10 (c_X10_takeWord l E (1 : Int32) _ _ h5) yv_X10_takeWord lk_RX3_70 rfl aH_10 rfl rfl hl.1 (Nat.le_of_ble_eq_true rfl) (by decide) (by decide) hR (ho_A hR) dX3_treasury_46 (fun H locs hR => ?_)
      refine lv_if_eq (tgt := 66) C.1 C.2.1 dX3_treasury_49 (by decide) (fun hc => ?_) (fun hc => ?_)
      · replace h := if_t h hc
        refine lv_iconst (v := (0 : Int32)) C.1 C.2.1 dX3_treasury_66 (by decide) ?_
        exact ho_zret C hR (Or.inl rfl) h dX3_treasury_67
      · replace h := if_f h hc
        refine lv_aload_n C.1 C.2.1 dX3_treasury_52 rfl (lv_at hl 0 rfl) ?_
        refine ho_getR (a' := 10) C cf3 fH_RX3_20 hR aH_20 rfl dX3_treasury_53 ?_
        refine lv_iconst (v := (0 : Int32)) C.1 C.2.1 dX3_treasury_56 (by decide) ?_
        refine lv_sipush (v := (9999 : Int32)) C.1 C.2.1 dX3_treasury_57 (by decide) ?_
        obtain ⟨r6, S6, h6, h⟩ := ob2_ok h
        refine hr_Vi (v := r6) (S' := S6) (As := [.int (0 : Int32), .int (9999 : Int32)]) (rest := []) C cf10 (c_X10_takeNumber l E (0 : Int32) (9999 : Int32) _ _ h6) yv_X10_takeNumber lk_RX3_74 rfl aH_10 rfl rfl hl.1 (Nat.le_of_ble_eq_true rfl) (by decide) (by decide) hR (ho_A hR) dX3_treasury_60 (fun H locs hR => ?_)
        refine lv_if_ne (tgt := 68) C.1 C.2.1 dX3_treasury_63 (by decide) (fun hc => ?_) (fun hc => ?_)
        · replace h := if_f h hc
          refine lv_aload_n C.1 C.2.1 dX3_treasury_68 rfl (lv_at hl 0 rfl) ?_
          obtain ⟨p7, e7, hp7, h⟩ := ldP_ok h
          refine hr_getP C cf3 fH_RX3_24 hR aH_20 e7 dX3_treasury_69 ?_
          refine lv_aload_n C.1 C.2.1 dX3_treasury_72 rfl (lv_at hl 0 rfl) ?_
          refine ho_getR (a' := 10) C cf3 fH_RX3_20 hR aH_20 rfl dX3_treasury_73 ?_
          refine ho_getI C cf10 fH_RX3_77 hR aH_10 dX3_treasury_76 ?_
          obtain ⟨S8, e8, h⟩ := le1_ok h
          refine hr_putI C cf2 fH_RX3_83 hR hp7 e8 dX3_treasury_79 (fun H locs hR => ?_)
          refine lv_aload_n C.1 C.2.1 dX3_treasury_82 rfl (lv_at hl 0 rfl) ?_
          refine ho_getR (a' := 10) C cf3 fH_RX3_20 hR aH_20 rfl dX3_treasury_83 ?_
          refine lv_iconst (v := (2 : Int32)) C.1 C.2.1 dX3_treasury_86 (by decide) ?_
          obtain ⟨r9, S9, h9, h⟩ := ob2_ok h
          refine hr_Vi (v := r9) (S' := S9) (As := [.int (2 : Int32)]) (rest := []) C cf10 (c_X10_takeWord l E (2 : Int32) _ _ h9) yv_X10_takeWord lk_RX3_70 rfl aH_10 rfl rfl hl.1 (Nat.le_of_ble_eq_true rfl) (by decide) (by decide) hR (ho_A hR) dX3_treasury_87 (fun H locs hR => ?_)
          refine lv_if_eq (tgt := 106) C.1 C.2.1 dX3_treasury_90 (by decide) (fun hc => ?_) (fun hc => ?_)
          · replace h := if_t h hc
            refine lv_iconst (v := (0 : Int32)) C.1 C.2.1 dX3_treasury_106 (by decide) ?_
            exact ho_zret C hR (Or.inl rfl) h dX3_treasury_107
          · replace h := if_f h hc
            refine lv_aload_n C.1 C.2.1 dX3_treasury_93 rfl (lv_at hl 0 rfl) ?_
            refine ho_getR (a' := 10) C cf3 fH_RX3_20 hR aH_20 rfl dX3_treasury_94 ?_
            refine lv_iconst (v := (0 : Int32)) C.1 C.2.1 dX3_treasury_97 (by decide) ?_
            refine lv_bipush (v := (99 : Int32)) C.1 C.2.1 dX3_treasury_98 (by decide) ?_
            obtain ⟨r10, S10, h10, h⟩ := ob2_ok h
            refine hr_Vi (v := r10) (S' := S10) (As := [.int (0 : Int32), .int (99 : Int32)]) (rest := []) C cf10 (c_X10_takeNumber l E (0 : Int32) (99 : Int32) _ _ h10) yv_X10_takeNumber lk_RX3_74 rfl aH_10 rfl rfl hl.1 (Nat.le_of_ble_eq_true rfl) (by decide) (by decide) hR (ho_A hR) dX3_treasury_100 (fun H locs hR => ?_)
            refine lv_if_ne (tgt := 108) C.1 C.2.1 dX3_treasury_103 (by decide) (fun hc => ?_) (fun hc => ?_)
            · replace h := if_f h hc
              refine lv_aload_n C.1 C.2.1 dX3_treasury_108 rfl (lv_at hl 0 rfl) ?_
              obtain ⟨p11, e11, hp11, h⟩ := ldP_ok h
              refine hr_getP C cf3 fH_RX3_24 hR aH_20 e11 dX3_treasury_109 ?_
              refine lv_aload_n C.1 C.2.1 dX3_treasury_112 rfl (lv_at hl 0 rfl) ?_
              refine ho_getR (a' := 10) C cf3 fH_RX3_20 hR aH_20 rfl dX3_treasury_113 ?_
              refine ho_getI C cf10 fH_RX3_77 hR aH_10 dX3_treasury_116 ?_
              obtain ⟨S12, e12, h⟩ := le1_ok h
              refine hr_putI C cf2 fH_RX3_86 hR hp11 e12 dX3_treasury_119 (fun H locs hR => ?_)
              refine lv_iconst (v := (1 : Int32)) C.1 C.2.1 dX3_treasury_122 (by decide) ?_
              exact ho_zret C hR (Or.inr rfl) h dX3_treasury_123
            · replace h := if_t h hc
              refine lv_iconst (v := (0 : Int32)) C.1 C.2.1 dX3_treasury_106 (by decide) ?_
              exact ho_zret C hR (Or.inl rfl) h dX3_treasury_107
        · replace h := if_t h hc
          refine lv_iconst (v := (0 : Int32)) C.1 C.2.1 dX3_treasury_66 (by decide) ?_
          exact ho_zret C hR (Or.inl rfl) h dX3_treasury_67
    · replace h := if_t h hc
      refine lv_iconst (v := (0 : Int32)) C.1 C.2.1 dX3_treasury_25 (by decide) ?_
      exact ho_zret C hR (Or.inl rfl) h dX3_treasury_26
