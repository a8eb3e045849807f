theorem dX12_isAsCounted_0 : decode cX12_isAsCounted 0 = .ok (.iconst 0, 1) := by decide +kernel
theorem dX12_isAsCounted_1 : decode cX12_isAsCounted 1 = .ok (.istore_n 1, 1) := by decide +kernel
theorem dX12_isAsCounted_2 : decode cX12_isAsCounted 2 = .ok (.iload_n 1, 1) := by decide +kernel
theorem dX12_isAsCounted_3 : decode cX12_isAsCounted 3 = .ok (.aload_n 0, 1) := by decide +kernel
theorem dX12_isAsCounted_4 : decode cX12_isAsCounted 4 = .ok (.getfield 404, 3) := by decide +kernel
theorem dX12_isAsCounted_7 : decode cX12_isAsCounted 7 = .ok (.if_icmp .ge 52, 3) := by decide +kernel
theorem dX12_isAsCounted_10 : decode cX12_isAsCounted 10 = .ok (.aload_n 0, 1) := by decide +kernel
theorem dX12_isAsCounted_11 : decode cX12_isAsCounted 11 = .ok (.getfield 148, 3) := by decide +kernel
theorem dX12_isAsCounted_14 : decode cX12_isAsCounted 14 = .ok (.aload_n 0, 1) := by decide +kernel
theorem dX12_isAsCounted_15 : decode cX12_isAsCounted 15 = .ok (.getfield 160, 3) := by decide +kernel
theorem dX12_isAsCounted_18 : decode cX12_isAsCounted 18 = .ok (.iconst 3, 1) := by decide +kernel
theorem dX12_isAsCounted_19 : decode cX12_isAsCounted 19 = .ok (.iload_n 1, 1) := by decide +kernel
theorem dX12_isAsCounted_20 : decode cX12_isAsCounted 20 = .ok (.imul, 1) := by decide +kernel
theorem dX12_isAsCounted_21 : decode cX12_isAsCounted 21 = .ok (.iaload, 1) := by decide +kernel
theorem dX12_isAsCounted_22 : decode cX12_isAsCounted 22 = .ok (.iaload, 1) := by decide +kernel
theorem dX12_isAsCounted_23 : decode cX12_isAsCounted 23 = .ok (.sipush 256, 3) := by decide +kernel
theorem dX12_isAsCounted_26 : decode cX12_isAsCounted 26 = .ok (.aload_n 0, 1) := by decide +kernel
theorem dX12_isAsCounted_27 : decode cX12_isAsCounted 27 = .ok (.getfield 160, 3) := by decide +kernel
theorem dX12_isAsCounted_30 : decode cX12_isAsCounted 30 = .ok (.iconst 3, 1) := by decide +kernel
theorem dX12_isAsCounted_31 : decode cX12_isAsCounted 31 = .ok (.iload_n 1, 1) := by decide +kernel
theorem dX12_isAsCounted_32 : decode cX12_isAsCounted 32 = .ok (.imul, 1) := by decide +kernel
theorem dX12_isAsCounted_33 : decode cX12_isAsCounted 33 = .ok (.iconst 1, 1) := by decide +kernel
theorem dX12_isAsCounted_34 : decode cX12_isAsCounted 34 = .ok (.iadd, 1) := by decide +kernel
theorem dX12_isAsCounted_35 : decode cX12_isAsCounted 35 = .ok (.iaload, 1) := by decide +kernel
theorem dX12_isAsCounted_36 : decode cX12_isAsCounted 36 = .ok (.imul, 1) := by decide +kernel
theorem dX12_isAsCounted_37 : decode cX12_isAsCounted 37 = .ok (.aload_n 0, 1) := by decide +kernel
theorem dX12_isAsCounted_38 : decode cX12_isAsCounted 38 = .ok (.getfield 160, 3) := by decide +kernel
theorem dX12_isAsCounted_41 : decode cX12_isAsCounted 41 = .ok (.iconst 3, 1) := by decide +kernel
theorem dX12_isAsCounted_42 : decode cX12_isAsCounted 42 = .ok (.iload_n 1, 1) := by decide +kernel
theorem dX12_isAsCounted_43 : decode cX12_isAsCounted 43 = .ok (.imul, 1) := by decide +kernel
theorem dX12_isAsCounted_44 : decode cX12_isAsCounted 44 = .ok (.iconst 2, 1) := by decide +kernel
theorem dX12_isAsCounted_45 : decode cX12_isAsCounted 45 = .ok (.iadd, 1) := by decide +kernel
theorem dX12_isAsCounted_46 : decode cX12_isAsCounted 46 = .ok (.iaload, 1) := by decide +kernel
theorem dX12_isAsCounted_47 : decode cX12_isAsCounted 47 = .ok (.iadd, 1) := by decide +kernel
theorem dX12_isAsCounted_48 : decode cX12_isAsCounted 48 = .ok (.if_icmp .eq 5, 3) := by decide +kernel
theorem dX12_isAsCounted_51 : decode cX12_isAsCounted 51 = .ok (.iconst 0, 1) := by decide +kernel
theorem dX12_isAsCounted_52 : decode cX12_isAsCounted 52 = .ok (.ireturn, 1) := by decide +kernel
theorem dX12_isAsCounted_53 : decode cX12_isAsCounted 53 = .ok (.iinc 1 1, 3) := by decide +kernel
theorem dX12_isAsCounted_56 : decode cX12_isAsCounted 56 = .ok (.goto (-54), 3) := by decide +kernel
theorem dX12_isAsCounted_59 : decode cX12_isAsCounted 59 = .ok (.iconst 1, 1) := by decide +kernel
theorem dX12_isAsCounted_60 : decode cX12_isAsCounted 60 = .ok (.ireturn, 1) := by decide +kernel
def f_X12_isAsCounted_2 : Nat → Int32 → Hp → Option (Int32 × Hp)
  | 0, _, _ => none
  | k + 1, x1, S => if (S.1 0 66) ≤ x1 then some ((1 : Int32), S) else ldI S 68 48 ((3 : Int32) * x1) (fun v1 => ldI S 60 6 v1 (fun v2 => ldI S 68 48 (((3 : Int32) * x1) + (1 : Int32)) (fun v3 => ldI S 68 48 (((3 : Int32) * x1) + (2 : Int32)) (fun v4 => if v2 = (((256 : Int32) * v3) + v4) then le1 (x1 + (1 : Int32)) (fun v5 => f_X12_isAsCounted_2 k v5 S) else some ((0 : Int32), S)))))
set_option maxHeartbeats 4000000 in
set_option maxRecDepth 100000 in
theorem w_X12_isAsCounted_2 {p : Program} {l : Launch} {e : Env} {s : State} {m : MethodId} {args : Array Value} {below : List Frame} {meth : Method} {c : Code} {E : Ev} {S0 : Hp} {r : (Int32 × Hp)} (C : ho_I p s m args meth c RX12 cX12_isAsCounted 2 (some .boolean)) :
    ∀ (k : Nat) (x1 : Int32) (S : Hp), f_X12_isAsCounted_2 k x1 S = some r → ho_G p l e s m args below meth c yM E S0 0 2 (some (.int r.1), r.2) 2 [(0, .ref (E.2.1 0)), (1, .int x1)] [] S := by
  intro k
  induction k with
  | zero =>
    intro x1 S h
    exact absurd (show (none : Option (Int32 × Hp)) = some r from h) (by simp)
  | succ k ih =>
    intro x1 S h H locs ls hR hl
    rw [f_X12_isAsCounted_2] at h
    refine lv_iload_n C.1 C.2.1 dX12_isAsCounted_2 rfl (lv_at hl 1 rfl) ?_
    refine lv_aload_n C.1 C.2.1 dX12_isAsCounted_3 rfl (lv_at hl 0 rfl) ?_
    refine ho_getI C cf12 fM_404 hR aM_0 dX12_isAsCounted_4 ?_
    refine lv_icmp_ge (tgt := 59) C.1 C.2.1 dX12_isAsCounted_7 (by decide) (fun hc => ?_) (fun hc => ?_)
    · replace h := if_t h hc
      refine lv_iconst (v := (1 : Int32)) C.1 C.2.1 dX12_isAsCounted_59 (by decide) ?_
      exact ho_zret C hR (Or.inr rfl) h dX12_isAsCounted_60
    · replace h := if_f h hc
      refine lv_aload_n C.1 C.2.1 dX12_isAsCounted_10 rfl (lv_at hl 0 rfl) ?_
      refine ho_getR (a' := 60) C cf12 fM_148 hR aM_0 rfl dX12_isAsCounted_11 ?_
      refine lv_aload_n C.1 C.2.1 dX12_isAsCounted_14 rfl (lv_at hl 0 rfl) ?_
      refine ho_getR (a' := 68) C cf12 fM_160 hR aM_0 rfl dX12_isAsCounted_15 ?_
      refine lv_iconst (v := (3 : Int32)) C.1 C.2.1 dX12_isAsCounted_18 (by decide) ?_
      refine lv_iload_n C.1 C.2.1 dX12_isAsCounted_19 rfl (lv_at hl 1 rfl) ?_
      refine lv_imul C.1 C.2.1 dX12_isAsCounted_20 ?_
      obtain ⟨v1, e1, hi1, h⟩ := ldI_ok h
      refine hr_ild C hR aM_68 hi1 e1 dX12_isAsCounted_21 ?_
      obtain ⟨v2, e2, hi2, h⟩ := ldI_ok h
      refine hr_ild C hR aM_60 hi2 e2 dX12_isAsCounted_22 ?_
      refine lv_sipush (v := (256 : Int32)) C.1 C.2.1 dX12_isAsCounted_23 (by decide) ?_
      refine lv_aload_n C.1 C.2.1 dX12_isAsCounted_26 rfl (lv_at hl 0 rfl) ?_
      refine ho_getR (a' := 68) C cf12 fM_160 hR aM_0 rfl dX12_isAsCounted_27 ?_
      refine lv_iconst (v := (3 : Int32)) C.1 C.2.1 dX12_isAsCounted_30 (by decide) ?_
      refine lv_iload_n C.1 C.2.1 dX12_isAsCounted_31 rfl (lv_at hl 1 rfl) ?_
      refine lv_imul C.1 C.2.1 dX12_isAsCounted_32 ?_
      refine lv_iconst (v := (1 : Int32)) C.1 C.2.1 dX12_isAsCounted_33 (by decide) ?_
      refine lv_iadd C.1 C.2.1 dX12_isAsCounted_34 ?_
      obtain ⟨v3, e3, hi3, h⟩ := ldI_ok h
      refine hr_ild C hR aM_68 hi3 e3 dX12_isAsCounted_35 ?_
      refine lv_imul C.1 C.2.1 dX12_isAsCounted_36 ?_
      refine lv_aload_n C.1 C.2.1 dX12_isAsCounted_37 rfl (lv_at hl 0 rfl) ?_
      refine ho_getR (a' := 68) C cf12 fM_160 hR aM_0 rfl dX12_isAsCounted_38 ?_
      refine lv_iconst (v := (3 : Int32)) C.1 C.2.1 dX12_isAsCounted_41 (by decide) ?_
      refine lv_iload_n C.1 C.2.1 dX12_isAsCounted_42 rfl (lv_at hl 1 rfl) ?_
      refine lv_imul C.1 C.2.1 dX12_isAsCounted_43 ?_
      refine lv_iconst (v := (2 : Int32)) C.1 C.2.1 dX12_isAsCounted_44 (by decide) ?_
      refine lv_iadd C.1 C.2.1 dX12_isAsCounted_45 ?_
      obtain ⟨v4, e4, hi4, h⟩ := ldI_ok h
      refine hr_ild C hR aM_68 hi4 e4 dX12_isAsCounted_46 ?_
      refine lv_iadd C.1 C.2.1 dX12_isAsCounted_47 ?_
      refine lv_icmp_eq (tgt := 53) C.1 C.2.1 dX12_isAsCounted_48 (by decide) (fun hc => ?_) (fun hc => ?_)
      · replace h := if_t h hc
        obtain ⟨v5, e5, h⟩ := le1_ok h
        refine lv_iinc (v := v5) (lv' := [(1, .int v5), (0, .ref (E.2.1 0))]) C.1 C.2.1 dX12_isAsCounted_53 hl (k := 1) rfl (by rw [e5]; rfl) (by decide) rfl (fun ls hl => ?_)
        refine lv_goto (tgt := 2) C.1 C.2.1 dX12_isAsCounted_56 (by decide) ?_
        exact ih v5 S h _ _ _ hR (lv_sub hl [1, 0] rfl)
      · replace h := if_f h hc
        refine lv_iconst (v := (0 : Int32)) C.1 C.2.1 dX12_isAsCounted_51 (by decide) ?_
        exact ho_zret C hR (Or.inl rfl) h dX12_isAsCounted_52
def f_X12_isAsCounted (S : Hp) : Option (Int32 × Hp) :=
  f_X12_isAsCounted_2 5000 (0 : Int32) S
set_option maxHeartbeats 4000000 in
set_option maxRecDepth 100000 in
theorem c_X12_isAsCounted (l : Launch) (E : Ev) (S : Hp) (r : (Int32 × Hp)) (h : f_X12_isAsCounted S = some r) : ho_M l yM E yX12_isAsCounted cX12_isAsCounted 2 (some .boolean) 0 [.ref (E.2.1 0)] S (some (.int r.1), r.2) := by
  refine ho_in (by decide) (Nat.le_of_ble_eq_true rfl) ?_
  intro p e s m args below meth c C hR ls hl
  have C : ho_I p s m args meth c RX12 cX12_isAsCounted 2 (some .boolean) := C
  have hl : lv_has ls 2 [(0, .ref (E.2.1 0))] := hl
  unfold f_X12_isAsCounted at h
  refine lv_iconst (v := (0 : Int32)) C.1 C.2.1 dX12_isAsCounted_0 (by decide) ?_
  refine lv_istore_n (lv' := [(1, .int (0 : Int32)), (0, .ref (E.2.1 0))]) C.1 C.2.1 dX12_isAsCounted_1 rfl hl (by decide) rfl (fun ls hl => ?_)
  exact w_X12_isAsCounted_2 C 5000 (0 : Int32) S h _ _ _ hR (lv_sub hl [1, 0] rfl)
theorem dX12_laysShows_0 : decode cX12_laysShows 0 = .ok (.aload_n 0, 1) := by decide +kernel
theorem dX12_laysShows_1 : decode cX12_laysShows 1 = .ok (.iconst 0, 1) := by decide +kernel
theorem dX12_laysShows_2 : decode cX12_laysShows 2 = .ok (.putfield 568, 3) := by decide +kernel
theorem dX12_laysShows_5 : decode cX12_laysShows 5 = .ok (.aload_n 0, 1) := by decide +kernel
theorem dX12_laysShows_6 : decode cX12_laysShows 6 = .ok (.invokevirtual 545, 3) := by decide +kernel
theorem dX12_laysShows_9 : decode cX12_laysShows 9 = .ok (.iconst 0, 1) := by decide +kernel
theorem dX12_laysShows_10 : decode cX12_laysShows 10 = .ok (.istore_n 1, 1) := by decide +kernel
theorem dX12_laysShows_11 : decode cX12_laysShows 11 = .ok (.iload_n 1, 1) := by decide +kernel
theorem dX12_laysShows_12 : decode cX12_laysShows 12 = .ok (.aload_n 0, 1) := by decide +kernel
theorem dX12_laysShows_13 : decode cX12_laysShows 13 = .ok (.invokevirtual 452, 3) := by decide +kernel
theorem dX12_laysShows_16 : decode cX12_laysShows 16 = .ok (.if_icmp .gt 93, 3) := by decide +kernel
theorem dX12_laysShows_19 : decode cX12_laysShows 19 = .ok (.aload_n 0, 1) := by decide +kernel
theorem dX12_laysShows_20 : decode cX12_laysShows 20 = .ok (.getfield 166, 3) := by decide +kernel
theorem dX12_laysShows_23 : decode cX12_laysShows 23 = .ok (.iload_n 1, 1) := by decide +kernel
theorem dX12_laysShows_24 : decode cX12_laysShows 24 = .ok (.iconst 0, 1) := by decide +kernel
theorem dX12_laysShows_25 : decode cX12_laysShows 25 = .ok (.bastore, 1) := by decide +kernel
theorem dX12_laysShows_26 : decode cX12_laysShows 26 = .ok (.aload_n 0, 1) := by decide +kernel
theorem dX12_laysShows_27 : decode cX12_laysShows 27 = .ok (.iload_n 1, 1) := by decide +kernel
theorem dX12_laysShows_28 : decode cX12_laysShows 28 = .ok (.invokevirtual 476, 3) := by decide +kernel
theorem dX12_laysShows_31 : decode cX12_laysShows 31 = .ok (.ifCond .ne 6, 3) := by decide +kernel
theorem dX12_laysShows_34 : decode cX12_laysShows 34 = .ok (.goto 69, 3) := by decide +kernel
theorem dX12_laysShows_37 : decode cX12_laysShows 37 = .ok (.aload_n 0, 1) := by decide +kernel
theorem dX12_laysShows_38 : decode cX12_laysShows 38 = .ok (.iload_n 1, 1) := by decide +kernel
theorem dX12_laysShows_39 : decode cX12_laysShows 39 = .ok (.invokevirtual 464, 3) := by decide +kernel
theorem dX12_laysShows_42 : decode cX12_laysShows 42 = .ok (.pop, 1) := by decide +kernel
theorem dX12_laysShows_43 : decode cX12_laysShows 43 = .ok (.aload_n 0, 1) := by decide +kernel
theorem dX12_laysShows_44 : decode cX12_laysShows 44 = .ok (.getfield 166, 3) := by decide +kernel
theorem dX12_laysShows_47 : decode cX12_laysShows 47 = .ok (.iload_n 1, 1) := by decide +kernel
theorem dX12_laysShows_48 : decode cX12_laysShows 48 = .ok (.aload_n 0, 1) := by decide +kernel
theorem dX12_laysShows_49 : decode cX12_laysShows 49 = .ok (.invokevirtual 571, 3) := by decide +kernel
theorem dX12_laysShows_52 : decode cX12_laysShows 52 = .ok (.bastore, 1) := by decide +kernel
theorem dX12_laysShows_53 : decode cX12_laysShows 53 = .ok (.iconst 0, 1) := by decide +kernel
theorem dX12_laysShows_54 : decode cX12_laysShows 54 = .ok (.istore_n 2, 1) := by decide +kernel
theorem dX12_laysShows_55 : decode cX12_laysShows 55 = .ok (.iload_n 2, 1) := by decide +kernel
theorem dX12_laysShows_56 : decode cX12_laysShows 56 = .ok (.bipush 6, 2) := by decide +kernel
theorem dX12_laysShows_58 : decode cX12_laysShows 58 = .ok (.if_icmp .ge 26, 3) := by decide +kernel
theorem dX12_laysShows_61 : decode cX12_laysShows 61 = .ok (.aload_n 0, 1) := by decide +kernel
theorem dX12_laysShows_62 : decode cX12_laysShows 62 = .ok (.getfield 163, 3) := by decide +kernel
theorem dX12_laysShows_65 : decode cX12_laysShows 65 = .ok (.bipush 6, 2) := by decide +kernel
theorem dX12_laysShows_67 : decode cX12_laysShows 67 = .ok (.iload_n 1, 1) := by decide +kernel
theorem dX12_laysShows_68 : decode cX12_laysShows 68 = .ok (.imul, 1) := by decide +kernel
theorem dX12_laysShows_69 : decode cX12_laysShows 69 = .ok (.iload_n 2, 1) := by decide +kernel
theorem dX12_laysShows_70 : decode cX12_laysShows 70 = .ok (.iadd, 1) := by decide +kernel
theorem dX12_laysShows_71 : decode cX12_laysShows 71 = .ok (.aload_n 0, 1) := by decide +kernel
theorem dX12_laysShows_72 : decode cX12_laysShows 72 = .ok (.getfield 148, 3) := by decide +kernel
theorem dX12_laysShows_75 : decode cX12_laysShows 75 = .ok (.iload_n 2, 1) := by decide +kernel
theorem dX12_laysShows_76 : decode cX12_laysShows 76 = .ok (.iaload, 1) := by decide +kernel
theorem dX12_laysShows_77 : decode cX12_laysShows 77 = .ok (.iastore, 1) := by decide +kernel
theorem dX12_laysShows_78 : decode cX12_laysShows 78 = .ok (.iinc 2 1, 3) := by decide +kernel
theorem dX12_laysShows_81 : decode cX12_laysShows 81 = .ok (.goto (-26), 3) := by decide +kernel
theorem dX12_laysShows_84 : decode cX12_laysShows 84 = .ok (.aload_n 0, 1) := by decide +kernel
theorem dX12_laysShows_85 : decode cX12_laysShows 85 = .ok (.getfield 166, 3) := by decide +kernel
theorem dX12_laysShows_88 : decode cX12_laysShows 88 = .ok (.iload_n 1, 1) := by decide +kernel
theorem dX12_laysShows_89 : decode cX12_laysShows 89 = .ok (.baload, 1) := by decide +kernel
theorem dX12_laysShows_90 : decode cX12_laysShows 90 = .ok (.ifCond .eq 13, 3) := by decide +kernel
theorem dX12_laysShows_93 : decode cX12_laysShows 93 = .ok (.aload_n 0, 1) := by decide +kernel
theorem dX12_laysShows_94 : decode cX12_laysShows 94 = .ok (.dup, 1) := by decide +kernel
theorem dX12_laysShows_95 : decode cX12_laysShows 95 = .ok (.getfield 568, 3) := by decide +kernel
theorem dX12_laysShows_98 : decode cX12_laysShows 98 = .ok (.iconst 1, 1) := by decide +kernel
theorem dX12_laysShows_99 : decode cX12_laysShows 99 = .ok (.iadd, 1) := by decide +kernel
theorem dX12_laysShows_100 : decode cX12_laysShows 100 = .ok (.putfield 568, 3) := by decide +kernel
theorem dX12_laysShows_103 : decode cX12_laysShows 103 = .ok (.iinc 1 1, 3) := by decide +kernel
theorem dX12_laysShows_106 : decode cX12_laysShows 106 = .ok (.goto (-95), 3) := by decide +kernel
theorem dX12_laysShows_109 : decode cX12_laysShows 109 = .ok (.aload_n 0, 1) := by decide +kernel
theorem dX12_laysShows_110 : decode cX12_laysShows 110 = .ok (.invokevirtual 548, 3) := by decide +kernel
theorem dX12_laysShows_113 : decode cX12_laysShows 113 = .ok (.return_, 1) := by decide +kernel
def f_X12_laysShows_103 (K11 : Int32 → Hp → Option Hp) (x1 : Int32) (S : Hp) : Option Hp :=
  le1 (x1 + (1 : Int32)) (fun v1 => K11 v1 S)
set_option maxHeartbeats 4000000 in
set_option maxRecDepth 100000 in
theorem w_X12_laysShows_103 {p : Program} {l : Launch} {e : Env} {s : State} {m : MethodId} {args : Array Value} {below : List Frame} {meth : Method} {c : Code} {E : Ev} {S0 : Hp} {r : Hp} (C : ho_I p s m args meth c RX12 cX12_laysShows 3 none) (K11 : Int32 → Hp → Option Hp) (hK11 : ∀ (y1 : Int32) (S : Hp), K11 y1 S = some r → ho_G p l e s m args below meth c yM E S0 3 3 (none, r) 11 [(0, .ref (E.2.1 0)), (1, .int y1)] [] S) :
    ∀ (x1 : Int32) (S : Hp), f_X12_laysShows_103 K11 x1 S = some r → ho_G p l e s m args below meth c yM E S0 3 3 (none, r) 103 [(0, .ref (E.2.1 0)), (1, .int x1)] [] S := by
  intro x1 S h H locs ls hR hl
  unfold f_X12_laysShows_103 at h
  obtain ⟨v1, e1, h⟩ := le1_ok h
  refine lv_iinc (v := v1) (lv' := [(1, .int v1), (0, .ref (E.2.1 0))]) C.1 C.2.1 dX12_laysShows_103 hl (k := 1) rfl (by rw [e1]; rfl) (by decide) rfl (fun ls hl => ?_)
  refine lv_goto (tgt := 11) C.1 C.2.1 dX12_laysShows_106 (by decide) ?_
  exact hK11 v1 S h _ _ _ hR (lv_sub hl [1, 0] rfl)
def f_X12_laysShows_55 (K11 : Int32 → Hp → Option Hp) : Nat → Int32 → Int32 → Hp → Option Hp
  | 0, _, _, _ => none
  | k + 1, x1, x2, S => if (6 : Int32) ≤ x2 then ldI S 70 64 x1 (fun v1 => if v1 = 0 then f_X12_laysShows_103 K11 x1 S else le1 (ho_sI S 0 70 ((S.1 0 70) + (1 : Int32))) (fun S2 => f_X12_laysShows_103 K11 x1 S2)) else ldI S 60 6 x2 (fun v3 => stI S 69 384 (((6 : Int32) * x1) + x2) v3 (fun S4 => le1 (x2 + (1 : Int32)) (fun v5 => f_X12_laysShows_55 K11 k x1 v5 S4)))
set_option maxHeartbeats 4000000 in
set_option maxRecDepth 100000 in
theorem w_X12_laysShows_55 {p : Program} {l : Launch} {e : Env} {s : State} {m : MethodId} {args : Array Value} {below : List Frame} {meth : Method} {c : Code} {E : Ev} {S0 : Hp} {r : Hp} (C : ho_I p s m args meth c RX12 cX12_laysShows 3 none) (K11 : Int32 → Hp → Option Hp) (hK11 : ∀ (y1 : Int32) (S : Hp), K11 y1 S = some r → ho_G p l e s m args below meth c yM E S0 3 3 (none, r) 11 [(0, .ref (E.2.1 0)), (1, .int y1)] [] S) :
    ∀ (k : Nat) (x1 : Int32) (x2 : Int32) (S : Hp), f_X12_laysShows_55 K11 k x1 x2 S = some r → ho_G p l e s m args below meth c yM E S0 3 3 (none, r) 55 [(0, .ref (E.2.1 0)), (1, .int x1), (2, .int x2)] [] S := by
  intro k
  induction k with
  | zero =>
    intro x1 x2 S h
    exact absurd (show (none : Option Hp) = some r from h) (by simp)
  | succ k ih =>
    intro x1 x2 S h H locs ls hR hl
    rw [f_X12_laysShows_55] at h
    refine lv_iload_n C.1 C.2.1 dX12_laysShows_55 rfl (lv_at hl 2 rfl) ?_
    refine lv_bipush (v := (6 : Int32)) C.1 C.2.1 dX12_laysShows_56 (by decide) ?_
    refine lv_icmp_ge (tgt := 84) C.1 C.2.1 dX12_laysShows_58 (by decide) (fun hc => ?_) (fun hc => ?_)
    · replace h := if_t h hc
      refine lv_aload_n C.1 C.2.1 dX12_laysShows_84 rfl (lv_at hl 0 rfl) ?_
      refine ho_getR (a' := 70) C cf12 fM_166 hR aM_0 rfl dX12_laysShows_85 ?_
      refine lv_iload_n C.1 C.2.1 dX12_laysShows_88 rfl (lv_at hl 1 rfl) ?_
      obtain ⟨v1, e1, hi1, h⟩ := ldI_ok h
      refine hr_zld C hR aM_70 hi1 e1 dX12_laysShows_89 ?_
      refine lv_if_eq (tgt := 103) C.1 C.2.1 dX12_laysShows_90 (by decide) (fun hc => ?_) (fun hc => ?_)
      · replace h := if_t h hc
        exact w_X12_laysShows_103 C K11 hK11 x1 S h _ _ _ hR (lv_sub hl [0, 1] rfl)
      · replace h := if_f h hc
        refine lv_aload_n C.1 C.2.1 dX12_laysShows_93 rfl (lv_at hl 0 rfl) ?_
        refine lv_dup C.1 C.2.1 dX12_laysShows_94 rfl ?_
        refine ho_getI C cf12 fM_568 hR aM_0 dX12_laysShows_95 ?_
        refine lv_iconst (v := (1 : Int32)) C.1 C.2.1 dX12_laysShows_98 (by decide) ?_
        refine lv_iadd C.1 C.2.1 dX12_laysShows_99 ?_
        obtain ⟨S2, e2, h⟩ := le1_ok h
        refine hr_putI C cf12 fM_568 hR aM_0 e2 dX12_laysShows_100 (fun H locs hR => ?_)
        exact w_X12_laysShows_103 C K11 hK11 x1 S2 h _ _ _ hR (lv_sub hl [0, 1] rfl)
    · replace h := if_f h hc
      refine lv_aload_n C.1 C.2.1 dX12_laysShows_61 rfl (lv_at hl 0 rfl) ?_
      refine ho_getR (a' := 69) C cf12 fM_163 hR aM_0 rfl dX12_laysShows_62 ?_
      refine lv_bipush (v := (6 : Int32)) C.1 C.2.1 dX12_laysShows_65 (by decide) ?_
      refine lv_iload_n C.1 C.2.1 dX12_laysShows_67 rfl (lv_at hl 1 rfl) ?_
      refine lv_imul C.1 C.2.1 dX12_laysShows_68 ?_
      refine lv_iload_n C.1 C.2.1 dX12_laysShows_69 rfl (lv_at hl 2 rfl) ?_
      refine lv_iadd C.1 C.2.1 dX12_laysShows_70 ?_
      refine lv_aload_n C.1 C.2.1 dX12_laysShows_71 rfl (lv_at hl 0 rfl) ?_
      refine ho_getR (a' := 60) C cf12 fM_148 hR aM_0 rfl dX12_laysShows_72 ?_
      refine lv_iload_n C.1 C.2.1 dX12_laysShows_75 rfl (lv_at hl 2 rfl) ?_
      obtain ⟨v3, e3, hi3, h⟩ := ldI_ok h
      refine hr_ild C hR aM_60 hi3 e3 dX12_laysShows_76 ?_
      obtain ⟨S4, e4, hi4, h⟩ := stI_ok h
      refine hr_ist C hR aM_69 hi4 e4 dX12_laysShows_77 (fun H locs hR => ?_)
      obtain ⟨v5, e5, h⟩ := le1_ok h
      refine lv_iinc (v := v5) (lv' := [(2, .int v5), (0, .ref (E.2.1 0)), (1, .int x1)]) C.1 C.2.1 dX12_laysShows_78 hl (k := 2) rfl (by rw [e5]; rfl) (by decide) rfl (fun ls hl => ?_)
      refine lv_goto (tgt := 55) C.1 C.2.1 dX12_laysShows_81 (by decide) ?_
      exact ih x1 v5 S4 h _ _ _ hR (lv_sub hl [1, 2, 0] rfl)
def f_X12_laysShows_11 : Nat → Int32 → Hp → Option Hp
  | 0, _, _ => none
  | k + 1, x1, S => ob2 (f_X12_allTricks S) (fun r1 S1 => if r1 < x1 then ob (f_X12_yieldsGoBack S1) (fun S2 => some S2) else stI S1 70 64 x1 (vp_nar .boolean (0 : Int32)) (fun S3 => ob2 (f_X12_canShow x1 S3) (fun r4 S4 => if r4 = 0 then f_X12_laysShows_103 (f_X12_laysShows_11 k) x1 S4 else ob2 (f_X12_appearsBy x1 S4) (fun r5 S5 => ob2 (f_X12_isAsCounted S5) (fun r6 S6 => stI S6 70 64 x1 (vp_nar .boolean r6) (fun S7 => f_X12_laysShows_55 (f_X12_laysShows_11 k) 5000 x1 (0 : Int32) S7))))))
set_option maxHeartbeats 4000000 in
set_option maxRecDepth 100000 in
theorem w_X12_laysShows_11 {p : Program} {l : Launch} {e : Env} {s : State} {m : MethodId} {args : Array Value} {below : List Frame} {meth : Method} {c : Code} {E : Ev} {S0 : Hp} {r : Hp} (C : ho_I p s m args meth c RX12 cX12_laysShows 3 none) :
    ∀ (k : Nat) (x1 : Int32) (S : Hp), f_X12_laysShows_11 k x1 S = some r → ho_G p l e s m args below meth c yM E S0 3 3 (none, r) 11 [(0, .ref (E.2.1 0)), (1, .int x1)] [] S := by
  intro k
  induction k with
  | zero =>
    intro x1 S h
    exact absurd (show (none : Option Hp) = some r from h) (by simp)
  | succ k ih =>
    intro x1 S h H locs ls hR hl
    rw [f_X12_laysShows_11] at h
    refine lv_iload_n C.1 C.2.1 dX12_laysShows_11 rfl (lv_at hl 1 rfl) ?_
    refine lv_aload_n C.1 C.2.1 dX12_laysShows_12 rfl (lv_at hl 0 rfl) ?_
    obtain ⟨r1, S1, h1, h⟩ := ob2_ok h
    refine hr_Vi (v := r1) (S' := S1) (As := []) (rest := [.int x1]) C cf12 (c_X12_allTricks l E _ _ h1) yv_X12_allTricks lk_RX12_452 rfl aM_0 rfl rfl hl.1 (Nat.le_of_ble_eq_true rfl) (by decide) (by decide) hR (ho_A hR) dX12_laysShows_13 (fun H locs hR => ?_)
    refine lv_icmp_gt (tgt := 109) C.1 C.2.1 dX12_laysShows_16 (by decide) (fun hc => ?_) (fun hc => ?_)
    · replace h := if_t h hc
      refine lv_aload_n C.1 C.2.1 dX12_laysShows_109 rfl (lv_at hl 0 rfl) ?_
      obtain ⟨S2, h2, h⟩ := ob_ok h
      refine hr_Vv (S' := S2) (As := []) (rest := []) C cf12 (c_X12_yieldsGoBack l E _ _ h2) yv_X12_yieldsGoBack lk_RX12_548 rfl aM_0 rfl rfl hl.1 (Nat.le_of_ble_eq_true rfl) (by decide) (by decide) hR (ho_A hR) dX12_laysShows_110 (fun H locs hR => ?_)
      exact ho_vret C hR h dX12_laysShows_113
    · replace h := if_f h hc
      refine lv_aload_n C.1 C.2.1 dX12_laysShows_19 rfl (lv_at hl 0 rfl) ?_
      refine ho_getR (a' := 70) C cf12 fM_166 hR aM_0 rfl dX12_laysShows_20 ?_
      refine lv_iload_n C.1 C.2.1 dX12_laysShows_23 rfl (lv_at hl 1 rfl) ?_
      refine lv_iconst (v := (0 : Int32)) C.1 C.2.1 dX12_laysShows_24 (by decide) ?_
      obtain ⟨S3, e3, hi3, h⟩ := stI_ok h
      refine hr_zst C hR aM_70 hi3 e3 dX12_laysShows_25 (fun H locs hR => ?_)
      refine lv_aload_n C.1 C.2.1 dX12_laysShows_26 rfl (lv_at hl 0 rfl) ?_
      refine lv_iload_n C.1 C.2.1 dX12_laysShows_27 rfl (lv_at hl 1 rfl) ?_
      obtain ⟨r4, S4, h4, h⟩ := ob2_ok h
      refine hr_Vi (v := r4) (S' := S4) (As := [.int x1]) (rest := []) C cf12 (c_X12_canShow l E x1 _ _ h4) yv_X12_canShow lk_RX12_476 rfl aM_0 rfl rfl hl.1 (Nat.le_of_ble_eq_true rfl) (by decide) (by decide) hR (ho_A hR) dX12_laysShows_28 (fun H locs hR => ?_)
      refine lv_if_ne (tgt := 37) C.1 C.2.1 dX12_laysShows_31 (by decide) (fun hc => ?_) (fun hc => ?_)
      · replace h := if_f h hc
        refine lv_aload_n C.1 C.2.1 dX12_laysShows_37 rfl (lv_at hl 0 rfl) ?_
        refine lv_iload_n C.1 C.2.1 dX12_laysShows_38 rfl (lv_at hl 1 rfl) ?_
        obtain ⟨r5, S5, h5, h⟩ := ob2_ok h
        refine hr_Vi (v := r5) (S' := S5) (As := [.int x1]) (rest := []) C cf12 (c_X12_appearsBy l E x1 _ _ h5) yv_X12_appearsBy lk_RX12_464 rfl aM_0 rfl rfl hl.1 (Nat.le_of_ble_eq_true rfl) (by decide) (by decide) hR (ho_A hR) dX12_laysShows_39 (fun H locs hR => ?_)
        refine lv_pop C.1 C.2.1 dX12_laysShows_42 rfl ?_
        refine lv_aload_n C.1 C.2.1 dX12_laysShows_43 rfl (lv_at hl 0 rfl) ?_
        refine ho_getR (a' := 70) C cf12 fM_166 hR aM_0 rfl dX12_laysShows_44 ?_
        refine lv_iload_n C.1 C.2.1 dX12_laysShows_47 rfl (lv_at hl 1 rfl) ?_
        refine lv_aload_n C.1 C.2.1 dX12_laysShows_48 rfl (lv_at hl 0 rfl) ?_
        obtain ⟨r6, S6, h6, h⟩ := ob2_ok h
        refine hr_Vi (v := r6) (S' := S6) (As := []) (rest := [.int x1, .ref (E.2.1 70)]) C cf12 (c_X12_isAsCounted l E _ _ h6) yv_X12_isAsCounted lk_RX12_571 rfl aM_0 rfl rfl hl.1 (Nat.le_of_ble_eq_true rfl) (by decide) (by decide) hR (ho_A hR) dX12_laysShows_49 (fun H locs hR => ?_)
        obtain ⟨S7, e7, hi7, h⟩ := stI_ok h
        refine hr_zst C hR aM_70 hi7 e7 dX12_laysShows_52 (fun H locs hR => ?_)
        refine lv_iconst (v := (0 : Int32)) C.1 C.2.1 dX12_laysShows_53 (by decide) ?_
        refine lv_istore_n (lv' := [(2, .int (0 : Int32)), (0, .ref (E.2.1 0)), (1, .int x1)]) C.1 C.2.1 dX12_laysShows_54 rfl hl (by decide) rfl (fun ls hl => ?_)
        exact w_X12_laysShows_55 C (f_X12_laysShows_11 k) ih 5000 x1 (0 : Int32) S7 h _ _ _ hR (lv_sub hl [1, 2, 0] rfl)
      · replace h := if_t h hc
        refine lv_goto (tgt := 103) C.1 C.2.1 dX12_laysShows_34 (by decide) ?_
        exact w_X12_laysShows_103 C (f_X12_laysShows_11 k) ih x1 S4 h _ _ _ hR (lv_sub hl [0, 1] rfl)
def f_X12_laysShows (S : Hp) : Option Hp :=
  le1 (ho_sI S 0 70 (0 : Int32)) (fun S1 => ob (f_X12_yieldsComeNow S1) (fun S2 => f_X12_laysShows_11 5000 (0 : Int32) S2))
set_option maxHeartbeats 4000000 in
set_option maxRecDepth 100000 in
theorem c_X12_laysShows (l : Launch) (E : Ev) (S : Hp) (r : Hp) (h : f_X12_laysShows S = some r) : ho_M l yM E yX12_laysShows cX12_laysShows 3 none 3 [.ref (E.2.1 0)] S (none, r) := by
  refine ho_in (by decide) (Nat.le_of_ble_eq_true rfl) ?_
  intro p e s m args below meth c C hR ls hl
  have C : ho_I p s m args meth c RX12 cX12_laysShows 3 none := C
  have hl : lv_has ls 3 [(0, .ref (E.2.1 0))] := hl
  unfold f_X12_laysShows at h
  refine lv_aload_n C.1 C.2.1 dX12_laysShows_0 rfl (lv_at hl 0 rfl) ?_
  refine lv_iconst (v := (0 : Int32)) C.1 C.2.1 dX12_laysShows_1 (by decide) ?_
  obtain ⟨S1, e1, h⟩ := le1_ok h
  refine hr_putI C cf12 fM_568 hR aM_0 e1 dX12_laysShows_2 (fun H locs hR => ?_)
  refine lv_aload_n C.1 C.2.1 dX12_laysShows_5 rfl (lv_at hl 0 rfl) ?_
  obtain ⟨S2, h2, h⟩ := ob_ok h
  refine hr_Vv (S' := S2) (As := []) (rest := []) C cf12 (c_X12_yieldsComeNow l E _ _ h2) yv_X12_yieldsComeNow lk_RX12_545 rfl aM_0 rfl rfl hl.1 (Nat.le_of_ble_eq_true rfl) (by decide) (by decide) hR (ho_A hR) dX12_laysShows_6 (fun H locs hR => ?_)
  refine lv_iconst (v := (0 : Int32)) C.1 C.2.1 dX12_laysShows_9 (by decide) ?_
  refine lv_istore_n (lv' := [(1, .int (0 : Int32)), (0, .ref (E.2.1 0))]) C.1 C.2.1 dX12_laysShows_10 rfl hl (by decide) rfl (fun ls hl => ?_)
  exact w_X12_laysShows_11 C 5000 (0 : Int32) S2 h _ _ _ hR (lv_sub hl [1, 0] rfl)
theorem dX12_shows_0 : decode cX12_shows 0 = .ok (.aload_n 0, 1) := by decide +kernel
theorem dX12_shows_1 : decode cX12_shows 1 = .ok (.iconst 1, 1) := by decide +kernel
theorem dX12_shows_2 : decode cX12_shows 2 = .ok (.iconst 1, 1) := by decide +kernel
theorem dX12_shows_3 : decode cX12_shows 3 = .ok (.iconst 1, 1) := by decide +kernel
theorem dX12_shows_4 : decode cX12_shows 4 = .ok (.invokevirtual 551, 3) := by decide +kernel
theorem dX12_shows_7 : decode cX12_shows 7 = .ok (.ifCond .eq 15, 3) := by decide +kernel
theorem dX12_shows_10 : decode cX12_shows 10 = .ok (.iload_n 1, 1) := by decide +kernel
theorem dX12_shows_11 : decode cX12_shows 11 = .ok (.i2l, 1) := by decide +kernel
theorem dX12_shows_12 : decode cX12_shows 12 = .ok (.lconst 0, 1) := by decide +kernel
theorem dX12_shows_13 : decode cX12_shows 13 = .ok (.ldc2_w 526, 3) := by decide +kernel
theorem dX12_shows_16 : decode cX12_shows 16 = .ok (.invokestatic 304, 3) := by decide +kernel
theorem dX12_shows_19 : decode cX12_shows 19 = .ok (.ifCond .ne 5, 3) := by decide +kernel
theorem dX12_shows_22 : decode cX12_shows 22 = .ok (.iconst (-1), 1) := by decide +kernel
theorem dX12_shows_23 : decode cX12_shows 23 = .ok (.ireturn, 1) := by decide +kernel
theorem dX12_shows_24 : decode cX12_shows 24 = .ok (.aload_n 0, 1) := by decide +kernel
theorem dX12_shows_25 : decode cX12_shows 25 = .ok (.invokevirtual 574, 3) := by decide +kernel
theorem dX12_shows_28 : decode cX12_shows 28 = .ok (.aload_n 0, 1) := by decide +kernel
theorem dX12_shows_29 : decode cX12_shows 29 = .ok (.invokevirtual 452, 3) := by decide +kernel
theorem dX12_shows_32 : decode cX12_shows 32 = .ok (.istore_n 2, 1) := by decide +kernel
theorem dX12_shows_33 : decode cX12_shows 33 = .ok (.iconst 0, 1) := by decide +kernel
theorem dX12_shows_34 : decode cX12_shows 34 = .ok (.istore_n 3, 1) := by decide +kernel
theorem dX12_shows_35 : decode cX12_shows 35 = .ok (.iconst 0, 1) := by decide +kernel
theorem dX12_shows_36 : decode cX12_shows 36 = .ok (.istore 4, 2) := by decide +kernel
theorem dX12_shows_38 : decode cX12_shows 38 = .ok (.iload 4, 2) := by decide +kernel
theorem dX12_shows_40 : decode cX12_shows 40 = .ok (.aload_n 0, 1) := by decide +kernel
theorem dX12_shows_41 : decode cX12_shows 41 = .ok (.invokevirtual 452, 3) := by decide +kernel
theorem dX12_shows_44 : decode cX12_shows 44 = .ok (.if_icmp .gt 32, 3) := by decide +kernel
theorem dX12_shows_47 : decode cX12_shows 47 = .ok (.aload_n 0, 1) := by decide +kernel
theorem dX12_shows_48 : decode cX12_shows 48 = .ok (.getfield 166, 3) := by decide +kernel
theorem dX12_shows_51 : decode cX12_shows 51 = .ok (.iload 4, 2) := by decide +kernel
theorem dX12_shows_53 : decode cX12_shows 53 = .ok (.baload, 1) := by decide +kernel
theorem dX12_shows_54 : decode cX12_shows 54 = .ok (.ifCond .ne 6, 3) := by decide +kernel
theorem dX12_shows_57 : decode cX12_shows 57 = .ok (.goto 13, 3) := by decide +kernel
theorem dX12_shows_60 : decode cX12_shows 60 = .ok (.iload_n 2, 1) := by decide +kernel
theorem dX12_shows_61 : decode cX12_shows 61 = .ok (.iload 4, 2) := by decide +kernel
theorem dX12_shows_63 : decode cX12_shows 63 = .ok (.iand, 1) := by decide +kernel
theorem dX12_shows_64 : decode cX12_shows 64 = .ok (.istore_n 2, 1) := by decide +kernel
theorem dX12_shows_65 : decode cX12_shows 65 = .ok (.iload_n 3, 1) := by decide +kernel
theorem dX12_shows_66 : decode cX12_shows 66 = .ok (.iload 4, 2) := by decide +kernel
theorem dX12_shows_68 : decode cX12_shows 68 = .ok (.ior, 1) := by decide +kernel
theorem dX12_shows_69 : decode cX12_shows 69 = .ok (.istore_n 3, 1) := by decide +kernel
theorem dX12_shows_70 : decode cX12_shows 70 = .ok (.iinc 4 1, 3) := by decide +kernel
theorem dX12_shows_73 : decode cX12_shows 73 = .ok (.goto (-35), 3) := by decide +kernel
theorem dX12_shows_76 : decode cX12_shows 76 = .ok (.iload_n 1, 1) := by decide +kernel
theorem dX12_shows_77 : decode cX12_shows 77 = .ok (.ifCond .ne 10, 3) := by decide +kernel
theorem dX12_shows_80 : decode cX12_shows 80 = .ok (.aload_n 0, 1) := by decide +kernel
theorem dX12_shows_81 : decode cX12_shows 81 = .ok (.getfield 568, 3) := by decide +kernel
theorem dX12_shows_84 : decode cX12_shows 84 = .ok (.goto 24, 3) := by decide +kernel
theorem dX12_shows_87 : decode cX12_shows 87 = .ok (.iload_n 1, 1) := by decide +kernel
theorem dX12_shows_88 : decode cX12_shows 88 = .ok (.iconst 1, 1) := by decide +kernel
theorem dX12_shows_89 : decode cX12_shows 89 = .ok (.if_icmp .ne 18, 3) := by decide +kernel
theorem dX12_shows_92 : decode cX12_shows 92 = .ok (.aload_n 0, 1) := by decide +kernel
theorem dX12_shows_93 : decode cX12_shows 93 = .ok (.getfield 568, 3) := by decide +kernel
theorem dX12_shows_96 : decode cX12_shows 96 = .ok (.ifCond .ne 7, 3) := by decide +kernel
theorem dX12_shows_99 : decode cX12_shows 99 = .ok (.iconst 0, 1) := by decide +kernel
theorem dX12_shows_100 : decode cX12_shows 100 = .ok (.goto 8, 3) := by decide +kernel
theorem dX12_shows_103 : decode cX12_shows 103 = .ok (.iload_n 2, 1) := by decide +kernel
theorem dX12_shows_104 : decode cX12_shows 104 = .ok (.goto 4, 3) := by decide +kernel
theorem dX12_shows_107 : decode cX12_shows 107 = .ok (.iload_n 3, 1) := by decide +kernel
theorem dX12_shows_108 : decode cX12_shows 108 = .ok (.ireturn, 1) := by decide +kernel
def f_X12_shows_70 (K38 : Int32 → Int32 → Int32 → Int32 → Hp → Option (Int32 × Hp)) (x1 : Int32) (x2 : Int32) (x3 : Int32) (x4 : Int32) (S : Hp) : Option (Int32 × Hp) :=
  le1 (x4 + (1 : Int32)) (fun v1 => K38 x1 x2 x3 v1 S)
set_option maxHeartbeats 4000000 in
set_option maxRecDepth 100000 in
theorem w_X12_shows_70 {p : Program} {l : Launch} {e : Env} {s : State} {m : MethodId} {args : Array Value} {below : List Frame} {meth : Method} {c : Code} {E : Ev} {S0 : Hp} {r : (Int32 × Hp)} (C : ho_I p s m args meth c RX12 cX12_shows 5 (some .int)) (K38 : Int32 → Int32 → Int32 → Int32 → Hp → Option (Int32 × Hp)) (hK38 : ∀ (y1 : Int32) (y2 : Int32) (y3 : Int32) (y4 : Int32) (S : Hp), K38 y1 y2 y3 y4 S = some r → ho_G p l e s m args below meth c yM E S0 4 5 (some (.int r.1), r.2) 38 [(0, .ref (E.2.1 0)), (1, .int y1), (2, .int y2), (3, .int y3), (4, .int y4)] [] S) :
    ∀ (x1 : Int32) (x2 : Int32) (x3 : Int32) (x4 : Int32) (S : Hp), f_X12_shows_70 K38 x1 x2 x3 x4 S = some r → ho_G p l e s m args below meth c yM E S0 4 5 (some (.int r.1), r.2) 70 [(0, .ref (E.2.1 0)), (1, .int x1), (2, .int x2), (3, .int x3), (4, .int x4)] [] S := by
  intro x1 x2 x3 x4 S h H locs ls hR hl
  unfold f_X12_shows_70 at h
  obtain ⟨v1, e1, h⟩ := le1_ok h
  refine lv_iinc (v := v1) (lv' := [(4, .int v1), (0, .ref (E.2.1 0)), (1, .int x1), (2, .int x2), (3, .int x3)]) C.1 C.2.1 dX12_shows_70 hl (k := 4) rfl (by rw [e1]; rfl) (by decide) rfl (fun ls hl => ?_)
  refine lv_goto (tgt := 38) C.1 C.2.1 dX12_shows_73 (by decide) ?_
  exact hK38 x1 x2 x3 v1 S h _ _ _ hR (lv_sub hl [1, 2, 3, 4, 0] rfl)
def f_X12_shows_38 : Nat → Int32 → Int32 → Int32 → Int32 → Hp → Option (Int32 × Hp)
  | 0, _, _, _, _, _ => none
  | k + 1, x1, x2, x3, x4, S => ob2 (f_X12_allTricks S) (fun r1 S1 => if r1 < x4 then if x1 = 0 then some ((S1.1 0 70), S1) else if x1 = (1 : Int32) then if (S1.1 0 70) = 0 then some ((0 : Int32), S1) else some (x2, S1) else some (x3, S1) else ldI S1 70 64 x4 (fun v2 => if v2 = 0 then f_X12_shows_70 (f_X12_shows_38 k) x1 x2 x3 x4 S1 else le1 (x2 &&& x4) (fun v3 => le1 (x3 ||| x4) (fun v4 => f_X12_shows_70 (f_X12_shows_38 k) x1 v3 v4 x4 S1))))
set_option maxHeartbeats 4000000 in
set_option maxRecDepth 100000 in
theorem w_X12_shows_38 {p : Program} {l : Launch} {e : Env} {s : State} {m : MethodId} {args : Array Value} {below : List Frame} {meth : Method} {c : Code} {E : Ev} {S0 : Hp} {r : (Int32 × Hp)} (C : ho_I p s m args meth c RX12 cX12_shows 5 (some .int)) :
    ∀ (k : Nat) (x1 : Int32) (x2 : Int32) (x3 : Int32) (x4 : Int32) (S : Hp), f_X12_shows_38 k x1 x2 x3 x4 S = some r → ho_G p l e s m args below meth c yM E S0 4 5 (some (.int r.1), r.2) 38 [(0, .ref (E.2.1 0)), (1, .int x1), (2, .int x2), (3, .int x3), (4, .int x4)] [] S := by
  intro k
  induction k with
  | zero =>
    intro x1 x2 x3 x4 S h
    exact absurd (show (none : Option (Int32 × Hp)) = some r from h) (by simp)
  | succ k ih =>
    intro x1 x2 x3 x4 S h H locs ls hR hl
    rw [f_X12_shows_38] at h
    refine lv_iload C.1 C.2.1 dX12_shows_38 (lv_at hl 4 rfl) ?_
    refine lv_aload_n C.1 C.2.1 dX12_shows_40 rfl (lv_at hl 0 rfl) ?_
    obtain ⟨r1, S1, h1, h⟩ := ob2_ok h
    refine hr_Vi (v := r1) (S' := S1) (As := []) (rest := [.int x4]) C cf12 (c_X12_allTricks l E _ _ h1) yv_X12_allTricks lk_RX12_452 rfl aM_0 rfl rfl hl.1 (Nat.le_of_ble_eq_true rfl) (by decide) (by decide) hR (ho_A hR) dX12_shows_41 (fun H locs hR => ?_)
    refine lv_icmp_gt (tgt := 76) C.1 C.2.1 dX12_shows_44 (by decide) (fun hc => ?_) (fun hc => ?_)
    · replace h := if_t h hc
      refine lv_iload_n C.1 C.2.1 dX12_shows_76 rfl (lv_at hl 1 rfl) ?_
      refine lv_if_ne (tgt := 87) C.1 C.2.1 dX12_shows_77 (by decide) (fun hc => ?_) (fun hc => ?_)
      · replace h := if_f h hc
        refine lv_iload_n C.1 C.2.1 dX12_shows_87 rfl (lv_at hl 1 rfl) ?_
        refine lv_iconst (v := (1 : Int32)) C.1 C.2.1 dX12_shows_88 (by decide) ?_
        refine lv_icmp_ne (tgt := 107) C.1 C.2.1 dX12_shows_89 (by decide) (fun hc => ?_) (fun hc => ?_)
        · replace h := if_f h hc
          refine lv_iload_n C.1 C.2.1 dX12_shows_107 rfl (lv_at hl 3 rfl) ?_
          exact ho_iret C hR h dX12_shows_108
        · replace h := if_t h hc
          refine lv_aload_n C.1 C.2.1 dX12_shows_92 rfl (lv_at hl 0 rfl) ?_
          refine ho_getI C cf12 fM_568 hR aM_0 dX12_shows_93 ?_
          refine lv_if_ne (tgt := 103) C.1 C.2.1 dX12_shows_96 (by decide) (fun hc => ?_) (fun hc => ?_)
          · replace h := if_f h hc
            refine lv_iload_n C.1 C.2.1 dX12_shows_103 rfl (lv_at hl 2 rfl) ?_
            refine lv_goto (tgt := 108) C.1 C.2.1 dX12_shows_104 (by decide) ?_
            exact ho_iret C hR h dX12_shows_108
          · replace h := if_t h hc
            refine lv_iconst (v := (0 : Int32)) C.1 C.2.1 dX12_shows_99 (by decide) ?_
            refine lv_goto (tgt := 108) C.1 C.2.1 dX12_shows_100 (by decide) ?_
            exact ho_iret C hR h dX12_shows_108
      · replace h := if_t h hc
        refine lv_aload_n C.1 C.2.1 dX12_shows_80 rfl (lv_at hl 0 rfl) ?_
        refine ho_getI C cf12 fM_568 hR aM_0 dX12_shows_81 ?_
        refine lv_goto (tgt := 108) C.1 C.2.1 dX12_shows_84 (by decide) ?_
        exact ho_iret C hR h dX12_shows_108
    · replace h := if_f h hc
      refine lv_aload_n C.1 C.2.1 dX12_shows_47 rfl (lv_at hl 0 rfl) ?_
      refine ho_getR (a' := 70) C cf12 fM_166 hR aM_0 rfl dX12_shows_48 ?_
      refine lv_iload C.1 C.2.1 dX12_shows_51 (lv_at hl 4 rfl) ?_
      obtain ⟨v2, e2, hi2, h⟩ := ldI_ok h
      refine hr_zld C hR aM_70 hi2 e2 dX12_shows_53 ?_
      refine lv_if_ne (tgt := 60) C.1 C.2.1 dX12_shows_54 (by decide) (fun hc => ?_) (fun hc => ?_)
      · replace h := if_f h hc
        refine lv_iload_n C.1 C.2.1 dX12_shows_60 rfl (lv_at hl 2 rfl) ?_
        refine lv_iload C.1 C.2.1 dX12_shows_61 (lv_at hl 4 rfl) ?_
        refine lv_iand C.1 C.2.1 dX12_shows_63 ?_
        refine lv_topi (fun v3 e3 => ?_)
        replace h := le1_at e3 h
        refine lv_istore_n (lv' := [(2, .int v3), (0, .ref (E.2.1 0)), (1, .int x1), (3, .int x3), (4, .int x4)]) C.1 C.2.1 dX12_shows_64 rfl hl (by decide) rfl (fun ls hl => ?_)
        refine lv_iload_n C.1 C.2.1 dX12_shows_65 rfl (lv_at hl 3 rfl) ?_
        refine lv_iload C.1 C.2.1 dX12_shows_66 (lv_at hl 4 rfl) ?_
        refine lv_ior C.1 C.2.1 dX12_shows_68 ?_
        refine lv_topi (fun v4 e4 => ?_)
        replace h := le1_at e4 h
        refine lv_istore_n (lv' := [(3, .int v4), (2, .int v3), (0, .ref (E.2.1 0)), (1, .int x1), (4, .int x4)]) C.1 C.2.1 dX12_shows_69 rfl hl (by decide) rfl (fun ls hl => ?_)
        exact w_X12_shows_70 C (f_X12_shows_38 k) ih x1 v3 v4 x4 S1 h _ _ _ hR (lv_sub hl [2, 3, 1, 0, 4] rfl)
      · replace h := if_t h hc
        refine lv_goto (tgt := 70) C.1 C.2.1 dX12_shows_57 (by decide) ?_
        exact w_X12_shows_70 C (f_X12_shows_38 k) ih x1 x2 x3 x4 S1 h _ _ _ hR (lv_sub hl [0, 1, 2, 3, 4] rfl)
def f_X12_shows (x1 : Int32) (S : Hp) : Option (Int32 × Hp) :=
  ob2 (f_X12_isAhead (1 : Int32) (1 : Int32) (1 : Int32) S) (fun r1 S1 => if r1 = 0 then some ((-1 : Int32), S1) else ob2 (f_X12_isIn (x1.toInt64) (0 : Int64) (2 : Int64) S1) (fun r2 S2 => if r2 = 0 then some ((-1 : Int32), S2) else ob (f_X12_laysShows S2) (fun S3 => ob2 (f_X12_allTricks S3) (fun r4 S4 => f_X12_shows_38 5000 x1 r4 (0 : Int32) (0 : Int32) S4))))
set_option maxHeartbeats 4000000 in
set_option maxRecDepth 100000 in
theorem c_X12_shows (l : Launch) (E : Ev) (x1 : Int32) (S : Hp) (r : (Int32 × Hp)) (h : f_X12_shows x1 S = some r) : ho_M l yM E yX12_shows cX12_shows 5 (some .int) 4 [.ref (E.2.1 0), .int x1] S (some (.int r.1), r.2) := by
  refine ho_in (by decide) (Nat.le_of_ble_eq_true rfl) ?_
  intro p e s m args below meth c C hR ls hl
  have C : ho_I p s m args meth c RX12 cX12_shows 5 (some .int) := C
  have hl : lv_has ls 5 [(0, .ref (E.2.1 0)), (1, .int x1)] := hl
  unfold f_X12_shows at h
  refine lv_aload_n C.1 C.2.1 dX12_shows_0 rfl (lv_at hl 0 rfl) ?_
  refine lv_iconst (v := (1 : Int32)) C.1 C.2.1 dX12_shows_1 (by decide) ?_
  refine lv_iconst (v := (1 : Int32)) C.1 C.2.1 dX12_shows_2 (by decide) ?_
  refine lv_iconst (v := (1 : Int32)) C.1 C.2.1 dX12_shows_3 (by decide) ?_
  obtain ⟨r1, S1, h1, h⟩ := ob2_ok h
  refine hr_Vi (v := r1) (S' := S1) (As := [.int (1 : Int32), .int (1 : Int32), .int (1 : Int32)]) (rest := []) C cf12 (c_X12_isAhead l E (1 : Int32) (1 : Int32) (1 : Int32) _ _ h1) yv_X12_isAhead lk_RX12_551 rfl aM_0 rfl rfl hl.1 (Nat.le_of_ble_eq_true rfl) (by decide) (by decide) hR (ho_A hR) dX12_shows_4 (fun H locs hR => ?_)
  refine lv_if_eq (tgt := 22) C.1 C.2.1 dX12_shows_7 (by decide) (fun hc => ?_) (fun hc => ?_)
  · replace h := if_t h hc
    refine lv_iconst (v := (-1 : Int32)) C.1 C.2.1 dX12_shows_22 (by decide) ?_
    exact ho_iret C hR h dX12_shows_23
  · replace h := if_f h hc
    refine lv_iload_n C.1 C.2.1 dX12_shows_10 rfl (lv_at hl 1 rfl) ?_
    refine lv_i2l (v := (x1.toInt64)) C.1 C.2.1 dX12_shows_11 rfl ?_
    refine lv_lconst (v := (0 : Int64)) C.1 C.2.1 dX12_shows_12 (by decide) ?_
    refine lv_ldc2 (v := (2 : Int64)) C.1 C.2.1 C.2.2.2.2.1 (C.2.2.2.2.2.1 _ kc_RX12_526) dX12_shows_13 ?_
    obtain ⟨r2, S2, h2, h⟩ := ob2_ok h
    refine hr_Si (v := r2) (S' := S2) (As := [.long (x1.toInt64), .long (0 : Int64), .long (2 : Int64)]) (rest := []) C (c_X12_isIn l E (x1.toInt64) (0 : Int64) (2 : Int64) _ _ h2) ys_X12_isIn lk_RX12_304 rfl rfl hl.1 (Nat.le_of_ble_eq_true rfl) (by decide) (by decide) hR (ho_A hR) dX12_shows_16 (fun H locs hR => ?_)
    refine lv_if_ne (tgt := 24) C.1 C.2.1 dX12_shows_19 (by decide) (fun hc => ?_) (fun hc => ?_)
    · replace h := if_f h hc
      refine lv_aload_n C.1 C.2.1 dX12_shows_24 rfl (lv_at hl 0 rfl) ?_
      obtain ⟨S3, h3, h⟩ := ob_ok h
      refine hr_Vv (S' := S3) (As := []) (rest := []) C cf12 (c_X12_laysShows l E _ _ h3) yv_X12_laysShows lk_RX12_574 rfl aM_0 rfl rfl hl.1 (Nat.le_of_ble_eq_true rfl) (by decide) (by decide) hR (ho_A hR) dX12_shows_25 (fun H locs hR => ?_)
      refine lv_aload_n C.1 C.2.1 dX12_shows_28 rfl (lv_at hl 0 rfl) ?_
      obtain ⟨r4, S4, h4, h⟩ := ob2_ok h
      refine hr_Vi (v := r4) (S' := S4) (As := []) (rest := []) C cf12 (c_X12_allTricks l E _ _ h4) yv_X12_allTricks lk_RX12_452 rfl aM_0 rfl rfl hl.1 (Nat.le_of_ble_eq_true rfl) (by decide) (by decide) hR (ho_A hR) dX12_shows_29 (fun H locs hR => ?_)
      refine lv_istore_n (lv' := [(2, .int r4), (0, .ref (E.2.1 0)), (1, .int x1)]) C.1 C.2.1 dX12_shows_32 rfl hl (by decide) rfl (fun ls hl => ?_)
      refine lv_iconst (v := (0 : Int32)) C.1 C.2.1 dX12_shows_33 (by decide) ?_
      refine lv_istore_n (lv' := [(3, .int (0 : Int32)), (2, .int r4), (0, .ref (E.2.1 0)), (1, .int x1)]) C.1 C.2.1 dX12_shows_34 rfl hl (by decide) rfl (fun ls hl => ?_)
      refine lv_iconst (v := (0 : Int32)) C.1 C.2.1 dX12_shows_35 (by decide) ?_
      refine lv_istore (lv' := [(4, .int (0 : Int32)), (3, .int (0 : Int32)), (2, .int r4), (0, .ref (E.2.1 0)), (1, .int x1)]) C.1 C.2.1 dX12_shows_36 hl (by decide) rfl (fun ls hl => ?_)
      exact w_X12_shows_38 C 5000 x1 r4 (0 : Int32) (0 : Int32) S4 h _ _ _ hR (lv_sub hl [3, 4, 2, 1, 0] rfl)
    · replace h := if_t h hc
      refine lv_iconst (v := (-1 : Int32)) C.1 C.2.1 dX12_shows_22 (by decide) ?_
      exact ho_iret C hR h dX12_shows_23
theorem dX12_alike_0 : decode cX12_alike 0 = .ok (.iconst 0, 1) := by decide +kernel
theorem dX12_alike_1 : decode cX12_alike 1 = .ok (.istore_n 3, 1) := by decide +kernel
theorem dX12_alike_2 : decode cX12_alike 2 = .ok (.iconst 0, 1) := by decide +kernel
theorem dX12_alike_3 : decode cX12_alike 3 = .ok (.istore 4, 2) := by decide +kernel
theorem dX12_alike_5 : decode cX12_alike 5 = .ok (.iload 4, 2) := by decide +kernel
theorem dX12_alike_7 : decode cX12_alike 7 = .ok (.aload_n 0, 1) := by decide +kernel
theorem dX12_alike_8 : decode cX12_alike 8 = .ok (.invokevirtual 452, 3) := by decide +kernel
theorem dX12_alike_11 : decode cX12_alike 11 = .ok (.if_icmp .gt 48, 3) := by decide +kernel
theorem dX12_alike_14 : decode cX12_alike 14 = .ok (.aload_n 0, 1) := by decide +kernel
theorem dX12_alike_15 : decode cX12_alike 15 = .ok (.getfield 166, 3) := by decide +kernel
theorem dX12_alike_18 : decode cX12_alike 18 = .ok (.iload 4, 2) := by decide +kernel
theorem dX12_alike_20 : decode cX12_alike 20 = .ok (.baload, 1) := by decide +kernel
theorem dX12_alike_21 : decode cX12_alike 21 = .ok (.ifCond .eq 32, 3) := by decide +kernel
theorem dX12_alike_24 : decode cX12_alike 24 = .ok (.aload_n 0, 1) := by decide +kernel
theorem dX12_alike_25 : decode cX12_alike 25 = .ok (.getfield 163, 3) := by decide +kernel
theorem dX12_alike_28 : decode cX12_alike 28 = .ok (.bipush 6, 2) := by decide +kernel
theorem dX12_alike_30 : decode cX12_alike 30 = .ok (.iload 4, 2) := by decide +kernel
theorem dX12_alike_32 : decode cX12_alike 32 = .ok (.imul, 1) := by decide +kernel
theorem dX12_alike_33 : decode cX12_alike 33 = .ok (.iload_n 1, 1) := by decide +kernel
theorem dX12_alike_34 : decode cX12_alike 34 = .ok (.iadd, 1) := by decide +kernel
theorem dX12_alike_35 : decode cX12_alike 35 = .ok (.iaload, 1) := by decide +kernel
theorem dX12_alike_36 : decode cX12_alike 36 = .ok (.aload_n 0, 1) := by decide +kernel
theorem dX12_alike_37 : decode cX12_alike 37 = .ok (.getfield 163, 3) := by decide +kernel
theorem dX12_alike_40 : decode cX12_alike 40 = .ok (.bipush 6, 2) := by decide +kernel
theorem dX12_alike_42 : decode cX12_alike 42 = .ok (.iload_n 2, 1) := by decide +kernel
theorem dX12_alike_43 : decode cX12_alike 43 = .ok (.imul, 1) := by decide +kernel
theorem dX12_alike_44 : decode cX12_alike 44 = .ok (.iload_n 1, 1) := by decide +kernel
theorem dX12_alike_45 : decode cX12_alike 45 = .ok (.iadd, 1) := by decide +kernel
theorem dX12_alike_46 : decode cX12_alike 46 = .ok (.iaload, 1) := by decide +kernel
theorem dX12_alike_47 : decode cX12_alike 47 = .ok (.if_icmp .ne 6, 3) := by decide +kernel
theorem dX12_alike_50 : decode cX12_alike 50 = .ok (.iinc 3 1, 3) := by decide +kernel
theorem dX12_alike_53 : decode cX12_alike 53 = .ok (.iinc 4 1, 3) := by decide +kernel
theorem dX12_alike_56 : decode cX12_alike 56 = .ok (.goto (-51), 3) := by decide +kernel
theorem dX12_alike_59 : decode cX12_alike 59 = .ok (.iload_n 3, 1) := by decide +kernel
theorem dX12_alike_60 : decode cX12_alike 60 = .ok (.ireturn, 1) := by decide +kernel
def f_X12_alike_53 (K5 : Int32 → Int32 → Int32 → Int32 → Hp → Option (Int32 × Hp)) (x1 : Int32) (x2 : Int32) (x3 : Int32) (x4 : Int32) (S : Hp) : Option (Int32 × Hp) :=
  le1 (x4 + (1 : Int32)) (fun v1 => K5 x1 x2 x3 v1 S)
set_option maxHeartbeats 4000000 in
set_option maxRecDepth 100000 in
theorem w_X12_alike_53 {p : Program} {l : Launch} {e : Env} {s : State} {m : MethodId} {args : Array Value} {below : List Frame} {meth : Method} {c : Code} {E : Ev} {S0 : Hp} {r : (Int32 × Hp)} (C : ho_I p s m args meth c RX12 cX12_alike 5 (some .int)) (K5 : Int32 → Int32 → Int32 → Int32 → Hp → Option (Int32 × Hp)) (hK5 : ∀ (y1 : Int32) (y2 : Int32) (y3 : Int32) (y4 : Int32) (S : Hp), K5 y1 y2 y3 y4 S = some r → ho_G p l e s m args below meth c yM E S0 2 5 (some (.int r.1), r.2) 5 [(0, .ref (E.2.1 0)), (1, .int y1), (2, .int y2), (3, .int y3), (4, .int y4)] [] S) :
    ∀ (x1 : Int32) (x2 : Int32) (x3 : Int32) (x4 : Int32) (S : Hp), f_X12_alike_53 K5 x1 x2 x3 x4 S = some r → ho_G p l e s m args below meth c yM E S0 2 5 (some (.int r.1), r.2) 53 [(0, .ref (E.2.1 0)), (1, .int x1), (2, .int x2), (3, .int x3), (4, .int x4)] [] S := by
  intro x1 x2 x3 x4 S h H locs ls hR hl
  unfold f_X12_alike_53 at h
  obtain ⟨v1, e1, h⟩ := le1_ok h
  refine lv_iinc (v := v1) (lv' := [(4, .int v1), (0, .ref (E.2.1 0)), (1, .int x1), (2, .int x2), (3, .int x3)]) C.1 C.2.1 dX12_alike_53 hl (k := 4) rfl (by rw [e1]; rfl) (by decide) rfl (fun ls hl => ?_)
  refine lv_goto (tgt := 5) C.1 C.2.1 dX12_alike_56 (by decide) ?_
  exact hK5 x1 x2 x3 v1 S h _ _ _ hR (lv_sub hl [1, 2, 3, 4, 0] rfl)
def f_X12_alike_5 : Nat → Int32 → Int32 → Int32 → Int32 → Hp → Option (Int32 × Hp)
  | 0, _, _, _, _, _ => none
  | k + 1, x1, x2, x3, x4, S => ob2 (f_X12_allTricks S) (fun r1 S1 => if r1 < x4 then some (x3, S1) else ldI S1 70 64 x4 (fun v2 => if v2 = 0 then f_X12_alike_53 (f_X12_alike_5 k) x1 x2 x3 x4 S1 else ldI S1 69 384 (((6 : Int32) * x4) + x1) (fun v3 => ldI S1 69 384 (((6 : Int32) * x2) + x1) (fun v4 => if v3 = v4 then le1 (x3 + (1 : Int32)) (fun v5 => f_X12_alike_53 (f_X12_alike_5 k) x1 x2 v5 x4 S1) else f_X12_alike_53 (f_X12_alike_5 k) x1 x2 x3 x4 S1))))
set_option maxHeartbeats 4000000 in
set_option maxRecDepth 100000 in
theorem w_X12_alike_5 {p : Program} {l : Launch} {e : Env} {s : State} {m : MethodId} {args : Array Value} {below : List Frame} {meth : Method} {c : Code} {E : Ev} {S0 : Hp} {r : (Int32 × Hp)} (C : ho_I p s m args meth c RX12 cX12_alike 5 (some .int)) :
    ∀ (k : Nat) (x1 : Int32) (x2 : Int32) (x3 : Int32) (x4 : Int32) (S : Hp), f_X12_alike_5 k x1 x2 x3 x4 S = some r → ho_G p l e s m args below meth c yM E S0 2 5 (some (.int r.1), r.2) 5 [(0, .ref (E.2.1 0)), (1, .int x1), (2, .int x2), (3, .int x3), (4, .int x4)] [] S := by
  intro k
  induction k with
  | zero =>
    intro x1 x2 x3 x4 S h
    exact absurd (show (none : Option (Int32 × Hp)) = some r from h) (by simp)
  | succ k ih =>
    intro x1 x2 x3 x4 S h H locs ls hR hl
    rw [f_X12_alike_5] at h
    refine lv_iload C.1 C.2.1 dX12_alike_5 (lv_at hl 4 rfl) ?_
    refine lv_aload_n C.1 C.2.1 dX12_alike_7 rfl (lv_at hl 0 rfl) ?_
    obtain ⟨r1, S1, h1, h⟩ := ob2_ok h
    refine hr_Vi (v := r1) (S' := S1) (As := []) (rest := [.int x4]) C cf12 (c_X12_allTricks l E _ _ h1) yv_X12_allTricks lk_RX12_452 rfl aM_0 rfl rfl hl.1 (Nat.le_of_ble_eq_true rfl) (by decide) (by decide) hR (ho_A hR) dX12_alike_8 (fun H locs hR => ?_)
    refine lv_icmp_gt (tgt := 59) C.1 C.2.1 dX12_alike_11 (by decide) (fun hc => ?_) (fun hc => ?_)
    · replace h := if_t h hc
      refine lv_iload_n C.1 C.2.1 dX12_alike_59 rfl (lv_at hl 3 rfl) ?_
      exact ho_iret C hR h dX12_alike_60
    · replace h := if_f h hc
      refine lv_aload_n C.1 C.2.1 dX12_alike_14 rfl (lv_at hl 0 rfl) ?_
      refine ho_getR (a' := 70) C cf12 fM_166 hR aM_0 rfl dX12_alike_15 ?_
      refine lv_iload C.1 C.2.1 dX12_alike_18 (lv_at hl 4 rfl) ?_
      obtain ⟨v2, e2, hi2, h⟩ := ldI_ok h
      refine hr_zld C hR aM_70 hi2 e2 dX12_alike_20 ?_
      refine lv_if_eq (tgt := 53) C.1 C.2.1 dX12_alike_21 (by decide) (fun hc => ?_) (fun hc => ?_)
      · replace h := if_t h hc
        exact w_X12_alike_53 C (f_X12_alike_5 k) ih x1 x2 x3 x4 S1 h _ _ _ hR (lv_sub hl [0, 1, 2, 3, 4] rfl)
      · replace h := if_f h hc
        refine lv_aload_n C.1 C.2.1 dX12_alike_24 rfl (lv_at hl 0 rfl) ?_
        refine ho_getR (a' := 69) C cf12 fM_163 hR aM_0 rfl dX12_alike_25 ?_
        refine lv_bipush (v := (6 : Int32)) C.1 C.2.1 dX12_alike_28 (by decide) ?_
        refine lv_iload C.1 C.2.1 dX12_alike_30 (lv_at hl 4 rfl) ?_
        refine lv_imul C.1 C.2.1 dX12_alike_32 ?_
        refine lv_iload_n C.1 C.2.1 dX12_alike_33 rfl (lv_at hl 1 rfl) ?_
        refine lv_iadd C.1 C.2.1 dX12_alike_34 ?_
        obtain ⟨v3, e3, hi3, h⟩ := ldI_ok h
        refine hr_ild C hR aM_69 hi3 e3 dX12_alike_35 ?_
        refine lv_aload_n C.1 C.2.1 dX12_alike_36 rfl (lv_at hl 0 rfl) ?_
        refine ho_getR (a' := 69) C cf12 fM_163 hR aM_0 rfl dX12_alike_37 ?_
        refine lv_bipush (v := (6 : Int32)) C.1 C.2.1 dX12_alike_40 (by decide) ?_
        refine lv_iload_n C.1 C.2.1 dX12_alike_42 rfl (lv_at hl 2 rfl) ?_
        refine lv_imul C.1 C.2.1 dX12_alike_43 ?_
        refine lv_iload_n C.1 C.2.1 dX12_alike_44 rfl (lv_at hl 1 rfl) ?_
        refine lv_iadd C.1 C.2.1 dX12_alike_45 ?_
        obtain ⟨v4, e4, hi4, h⟩ := ldI_ok h
        refine hr_ild C hR aM_69 hi4 e4 dX12_alike_46 ?_
        refine lv_icmp_ne (tgt := 53) C.1 C.2.1 dX12_alike_47 (by decide) (fun hc => ?_) (fun hc => ?_)
        · replace h := if_f h hc
          exact w_X12_alike_53 C (f_X12_alike_5 k) ih x1 x2 x3 x4 S1 h _ _ _ hR (lv_sub hl [0, 1, 2, 3, 4] rfl)
        · replace h := if_t h hc
          obtain ⟨v5, e5, h⟩ := le1_ok h
          refine lv_iinc (v := v5) (lv' := [(3, .int v5), (0, .ref (E.2.1 0)), (1, .int x1), (2, .int x2), (4, .int x4)]) C.1 C.2.1 dX12_alike_50 hl (k := 3) rfl (by rw [e5]; rfl) (by decide) rfl (fun ls hl => ?_)
          exact w_X12_alike_53 C (f_X12_alike_5 k) ih x1 x2 v5 x4 S1 h _ _ _ hR (lv_sub hl [1, 2, 3, 0, 4] rfl)
def f_X12_alike (x1 : Int32) (x2 : Int32) (S : Hp) : Option (Int32 × Hp) :=
  f_X12_alike_5 5000 x1 x2 (0 : Int32) (0 : Int32) S
set_option maxHeartbeats 4000000 in
set_option maxRecDepth 100000 in
theorem c_X12_alike (l : Launch) (E : Ev) (x1 : Int32) (x2 : Int32) (S : Hp) (r : (Int32 × Hp)) (h : f_X12_alike x1 x2 S = some r) : ho_M l yM E yX12_alike cX12_alike 5 (some .int) 2 [.ref (E.2.1 0), .int x1, .int x2] S (some (.int r.1), r.2) := by
  refine ho_in (by decide) (Nat.le_of_ble_eq_true rfl) ?_
  intro p e s m args below meth c C hR ls hl
  have C : ho_I p s m args meth c RX12 cX12_alike 5 (some .int) := C
  have hl : lv_has ls 5 [(0, .ref (E.2.1 0)), (1, .int x1), (2, .int x2)] := hl
  unfold f_X12_alike at h
  refine lv_iconst (v := (0 : Int32)) C.1 C.2.1 dX12_alike_0 (by decide) ?_
  refine lv_istore_n (lv' := [(3, .int (0 : Int32)), (0, .ref (E.2.1 0)), (1, .int x1), (2, .int x2)]) C.1 C.2.1 dX12_alike_1 rfl hl (by decide) rfl (fun ls hl => ?_)
  refine lv_iconst (v := (0 : Int32)) C.1 C.2.1 dX12_alike_2 (by decide) ?_
  refine lv_istore (lv' := [(4, .int (0 : Int32)), (3, .int (0 : Int32)), (0, .ref (E.2.1 0)), (1, .int x1), (2, .int x2)]) C.1 C.2.1 dX12_alike_3 hl (by decide) rfl (fun ls hl => ?_)
  exact w_X12_alike_5 C 5000 x1 x2 (0 : Int32) (0 : Int32) S h _ _ _ hR (lv_sub hl [2, 3, 4, 1, 0] rfl)
theorem dX12_where_0 : decode cX12_where 0 = .ok (.aload_n 0, 1) := by decide +kernel
theorem dX12_where_1 : decode cX12_where 1 = .ok (.iconst 1, 1) := by decide +kernel
theorem dX12_where_2 : decode cX12_where 2 = .ok (.iconst 1, 1) := by decide +kernel
theorem dX12_where_3 : decode cX12_where 3 = .ok (.iconst 1, 1) := by decide +kernel
theorem dX12_where_4 : decode cX12_where 4 = .ok (.invokevirtual 551, 3) := by decide +kernel
theorem dX12_where_7 : decode cX12_where 7 = .ok (.ifCond .eq 13, 3) := by decide +kernel
theorem dX12_where_10 : decode cX12_where 10 = .ok (.iload_n 1, 1) := by decide +kernel
theorem dX12_where_11 : decode cX12_where 11 = .ok (.i2l, 1) := by decide +kernel
theorem dX12_where_12 : decode cX12_where 12 = .ok (.lconst 0, 1) := by decide +kernel
theorem dX12_where_13 : decode cX12_where 13 = .ok (.lconst 1, 1) := by decide +kernel
theorem dX12_where_14 : decode cX12_where 14 = .ok (.invokestatic 304, 3) := by decide +kernel
theorem dX12_where_17 : decode cX12_where 17 = .ok (.ifCond .ne 5, 3) := by decide +kernel
theorem dX12_where_20 : decode cX12_where 20 = .ok (.iconst (-1), 1) := by decide +kernel
theorem dX12_where_21 : decode cX12_where 21 = .ok (.ireturn, 1) := by decide +kernel
theorem dX12_where_22 : decode cX12_where 22 = .ok (.aload_n 0, 1) := by decide +kernel
theorem dX12_where_23 : decode cX12_where 23 = .ok (.invokevirtual 574, 3) := by decide +kernel
theorem dX12_where_26 : decode cX12_where 26 = .ok (.iconst (-1), 1) := by decide +kernel
theorem dX12_where_27 : decode cX12_where 27 = .ok (.istore_n 2, 1) := by decide +kernel
theorem dX12_where_28 : decode cX12_where 28 = .ok (.iconst 0, 1) := by decide +kernel
theorem dX12_where_29 : decode cX12_where 29 = .ok (.istore_n 3, 1) := by decide +kernel
theorem dX12_where_30 : decode cX12_where 30 = .ok (.iconst 0, 1) := by decide +kernel
theorem dX12_where_31 : decode cX12_where 31 = .ok (.istore 4, 2) := by decide +kernel
theorem dX12_where_33 : decode cX12_where 33 = .ok (.iload 4, 2) := by decide +kernel
theorem dX12_where_35 : decode cX12_where 35 = .ok (.aload_n 0, 1) := by decide +kernel
theorem dX12_where_36 : decode cX12_where 36 = .ok (.invokevirtual 407, 3) := by decide +kernel
theorem dX12_where_39 : decode cX12_where 39 = .ok (.if_icmp .ge 90, 3) := by decide +kernel
theorem dX12_where_42 : decode cX12_where 42 = .ok (.aload_n 0, 1) := by decide +kernel
theorem dX12_where_43 : decode cX12_where 43 = .ok (.getfield 568, 3) := by decide +kernel
theorem dX12_where_46 : decode cX12_where 46 = .ok (.ifCond .le 83, 3) := by decide +kernel
theorem dX12_where_49 : decode cX12_where 49 = .ok (.iconst 0, 1) := by decide +kernel
theorem dX12_where_50 : decode cX12_where 50 = .ok (.istore 5, 2) := by decide +kernel
theorem dX12_where_52 : decode cX12_where 52 = .ok (.iconst 0, 1) := by decide +kernel
theorem dX12_where_53 : decode cX12_where 53 = .ok (.istore 6, 2) := by decide +kernel
theorem dX12_where_55 : decode cX12_where 55 = .ok (.iload 6, 2) := by decide +kernel
theorem dX12_where_57 : decode cX12_where 57 = .ok (.aload_n 0, 1) := by decide +kernel
theorem dX12_where_58 : decode cX12_where 58 = .ok (.invokevirtual 452, 3) := by decide +kernel
theorem dX12_where_61 : decode cX12_where 61 = .ok (.if_icmp .gt 42, 3) := by decide +kernel
theorem dX12_where_64 : decode cX12_where 64 = .ok (.aload_n 0, 1) := by decide +kernel
theorem dX12_where_65 : decode cX12_where 65 = .ok (.getfield 166, 3) := by decide +kernel
theorem dX12_where_68 : decode cX12_where 68 = .ok (.iload 6, 2) := by decide +kernel
theorem dX12_where_70 : decode cX12_where 70 = .ok (.baload, 1) := by decide +kernel
theorem dX12_where_71 : decode cX12_where 71 = .ok (.ifCond .eq 26, 3) := by decide +kernel
theorem dX12_where_74 : decode cX12_where 74 = .ok (.aload_n 0, 1) := by decide +kernel
theorem dX12_where_75 : decode cX12_where 75 = .ok (.iload 4, 2) := by decide +kernel
theorem dX12_where_77 : decode cX12_where 77 = .ok (.iload 6, 2) := by decide +kernel
theorem dX12_where_79 : decode cX12_where 79 = .ok (.invokevirtual 577, 3) := by decide +kernel
theorem dX12_where_82 : decode cX12_where 82 = .ok (.iload 5, 2) := by decide +kernel
theorem dX12_where_84 : decode cX12_where 84 = .ok (.if_icmp .le 13, 3) := by decide +kernel
theorem dX12_where_87 : decode cX12_where 87 = .ok (.aload_n 0, 1) := by decide +kernel
theorem dX12_where_88 : decode cX12_where 88 = .ok (.iload 4, 2) := by decide +kernel
theorem dX12_where_90 : decode cX12_where 90 = .ok (.iload 6, 2) := by decide +kernel
theorem dX12_where_92 : decode cX12_where 92 = .ok (.invokevirtual 577, 3) := by decide +kernel
theorem dX12_where_95 : decode cX12_where 95 = .ok (.istore 5, 2) := by decide +kernel
theorem dX12_where_97 : decode cX12_where 97 = .ok (.iinc 6 1, 3) := by decide +kernel
theorem dX12_where_100 : decode cX12_where 100 = .ok (.goto (-45), 3) := by decide +kernel
theorem dX12_where_103 : decode cX12_where 103 = .ok (.iload_n 2, 1) := by decide +kernel
theorem dX12_where_104 : decode cX12_where 104 = .ok (.iconst (-1), 1) := by decide +kernel
theorem dX12_where_105 : decode cX12_where 105 = .ok (.if_icmp .eq 12, 3) := by decide +kernel
theorem dX12_where_108 : decode cX12_where 108 = .ok (.iload 5, 2) := by decide +kernel
theorem dX12_where_110 : decode cX12_where 110 = .ok (.iload_n 3, 1) := by decide +kernel
theorem dX12_where_111 : decode cX12_where 111 = .ok (.if_icmp .lt 6, 3) := by decide +kernel
theorem dX12_where_114 : decode cX12_where 114 = .ok (.goto 9, 3) := by decide +kernel
theorem dX12_where_117 : decode cX12_where 117 = .ok (.iload 4, 2) := by decide +kernel
theorem dX12_where_119 : decode cX12_where 119 = .ok (.istore_n 2, 1) := by decide +kernel
theorem dX12_where_120 : decode cX12_where 120 = .ok (.iload 5, 2) := by decide +kernel
theorem dX12_where_122 : decode cX12_where 122 = .ok (.istore_n 3, 1) := by decide +kernel
theorem dX12_where_123 : decode cX12_where 123 = .ok (.iinc 4 1, 3) := by decide +kernel
theorem dX12_where_126 : decode cX12_where 126 = .ok (.goto (-93), 3) := by decide +kernel
theorem dX12_where_129 : decode cX12_where 129 = .ok (.iload_n 2, 1) := by decide +kernel
theorem dX12_where_130 : decode cX12_where 130 = .ok (.iconst (-1), 1) := by decide +kernel
theorem dX12_where_131 : decode cX12_where 131 = .ok (.if_icmp .ne 7, 3) := by decide +kernel
theorem dX12_where_134 : decode cX12_where 134 = .ok (.iconst (-1), 1) := by decide +kernel
theorem dX12_where_135 : decode cX12_where 135 = .ok (.goto 12, 3) := by decide +kernel
theorem dX12_where_138 : decode cX12_where 138 = .ok (.iload_n 1, 1) := by decide +kernel
theorem dX12_where_139 : decode cX12_where 139 = .ok (.ifCond .ne 7, 3) := by decide +kernel
theorem dX12_where_142 : decode cX12_where 142 = .ok (.iload_n 2, 1) := by decide +kernel
theorem dX12_where_143 : decode cX12_where 143 = .ok (.goto 4, 3) := by decide +kernel
theorem dX12_where_146 : decode cX12_where 146 = .ok (.iload_n 3, 1) := by decide +kernel
theorem dX12_where_147 : decode cX12_where 147 = .ok (.ireturn, 1) := by decide +kernel
def f_X12_where_129 (x1 : Int32) (x2 : Int32) (x3 : Int32) (S : Hp) : Option (Int32 × Hp) :=
  if x2 = (-1 : Int32) then some ((-1 : Int32), S) else if x1 = 0 then some (x2, S) else some (x3, S)
set_option maxHeartbeats 4000000 in
set_option maxRecDepth 100000 in
theorem w_X12_where_129 {p : Program} {l : Launch} {e : Env} {s : State} {m : MethodId} {args : Array Value} {below : List Frame} {meth : Method} {c : Code} {E : Ev} {S0 : Hp} {r : (Int32 × Hp)} (C : ho_I p s m args meth c RX12 cX12_where 7 (some .int)) :
    ∀ (x1 : Int32) (x2 : Int32) (x3 : Int32) (S : Hp), f_X12_where_129 x1 x2 x3 S = some r → ho_G p l e s m args below meth c yM E S0 4 7 (some (.int r.1), r.2) 129 [(1, .int x1), (2, .int x2), (3, .int x3)] [] S := by
  intro x1 x2 x3 S h H locs ls hR hl
  unfold f_X12_where_129 at h
  refine lv_iload_n C.1 C.2.1 dX12_where_129 rfl (lv_at hl 1 rfl) ?_
  refine lv_iconst (v := (-1 : Int32)) C.1 C.2.1 dX12_where_130 (by decide) ?_
  refine lv_icmp_ne (tgt := 138) C.1 C.2.1 dX12_where_131 (by decide) (fun hc => ?_) (fun hc => ?_)
  · replace h := if_f h hc
    refine lv_iload_n C.1 C.2.1 dX12_where_138 rfl (lv_at hl 0 rfl) ?_
    refine lv_if_ne (tgt := 146) C.1 C.2.1 dX12_where_139 (by decide) (fun hc => ?_) (fun hc => ?_)
    · replace h := if_f h hc
      refine lv_iload_n C.1 C.2.1 dX12_where_146 rfl (lv_at hl 2 rfl) ?_
      exact ho_iret C hR h dX12_where_147
    · replace h := if_t h hc
      refine lv_iload_n C.1 C.2.1 dX12_where_142 rfl (lv_at hl 1 rfl) ?_
      refine lv_goto (tgt := 147) C.1 C.2.1 dX12_where_143 (by decide) ?_
      exact ho_iret C hR h dX12_where_147
  · replace h := if_t h hc
    refine lv_iconst (v := (-1 : Int32)) C.1 C.2.1 dX12_where_134 (by decide) ?_
    refine lv_goto (tgt := 147) C.1 C.2.1 dX12_where_135 (by decide) ?_
    exact ho_iret C hR h dX12_where_147
def f_X12_where_123 (K33 : Int32 → Int32 → Int32 → Int32 → Hp → Option (Int32 × Hp)) (x1 : Int32) (x2 : Int32) (x3 : Int32) (x4 : Int32) (S : Hp) : Option (Int32 × Hp) :=
  le1 (x4 + (1 : Int32)) (fun v1 => K33 x1 x2 x3 v1 S)
set_option maxHeartbeats 4000000 in
set_option maxRecDepth 100000 in
theorem w_X12_where_123 {p : Program} {l : Launch} {e : Env} {s : State} {m : MethodId} {args : Array Value} {below : List Frame} {meth : Method} {c : Code} {E : Ev} {S0 : Hp} {r : (Int32 × Hp)} (C : ho_I p s m args meth c RX12 cX12_where 7 (some .int)) (K33 : Int32 → Int32 → Int32 → Int32 → Hp → Option (Int32 × Hp)) (hK33 : ∀ (y1 : Int32) (y2 : Int32) (y3 : Int32) (y4 : Int32) (S : Hp), K33 y1 y2 y3 y4 S = some r → ho_G p l e s m args below meth c yM E S0 4 7 (some (.int r.1), r.2) 33 [(0, .ref (E.2.1 0)), (1, .int y1), (2, .int y2), (3, .int y3), (4, .int y4)] [] S) :
    ∀ (x1 : Int32) (x2 : Int32) (x3 : Int32) (x4 : Int32) (S : Hp), f_X12_where_123 K33 x1 x2 x3 x4 S = some r → ho_G p l e s m args below meth c yM E S0 4 7 (some (.int r.1), r.2) 123 [(0, .ref (E.2.1 0)), (1, .int x1), (2, .int x2), (3, .int x3), (4, .int x4)] [] S := by
  intro x1 x2 x3 x4 S h H locs ls hR hl
  unfold f_X12_where_123 at h
  obtain ⟨v1, e1, h⟩ := le1_ok h
  refine lv_iinc (v := v1) (lv' := [(4, .int v1), (0, .ref (E.2.1 0)), (1, .int x1), (2, .int x2), (3, .int x3)]) C.1 C.2.1 dX12_where_123 hl (k := 4) rfl (by rw [e1]; rfl) (by decide) rfl (fun ls hl => ?_)
  refine lv_goto (tgt := 33) C.1 C.2.1 dX12_where_126 (by decide) ?_
  exact hK33 x1 x2 x3 v1 S h _ _ _ hR (lv_sub hl [1, 2, 3, 4, 0] rfl)
def f_X12_where_117 (K33 : Int32 → Int32 → Int32 → Int32 → Hp → Option (Int32 × Hp)) (x1 : Int32) (x4 : Int32) (x5 : Int32) (S : Hp) : Option (Int32 × Hp) :=
  f_X12_where_123 K33 x1 x4 x5 x4 S
set_option maxHeartbeats 4000000 in
set_option maxRecDepth 100000 in
theorem w_X12_where_117 {p : Program} {l : Launch} {e : Env} {s : State} {m : MethodId} {args : Array Value} {below : List Frame} {meth : Method} {c : Code} {E : Ev} {S0 : Hp} {r : (Int32 × Hp)} (C : ho_I p s m args meth c RX12 cX12_where 7 (some .int)) (K33 : Int32 → Int32 → Int32 → Int32 → Hp → Option (Int32 × Hp)) (hK33 : ∀ (y1 : Int32) (y2 : Int32) (y3 : Int32) (y4 : Int32) (S : Hp), K33 y1 y2 y3 y4 S = some r → ho_G p l e s m args below meth c yM E S0 4 7 (some (.int r.1), r.2) 33 [(0, .ref (E.2.1 0)), (1, .int y1), (2, .int y2), (3, .int y3), (4, .int y4)] [] S) :
    ∀ (x1 : Int32) (x4 : Int32) (x5 : Int32) (S : Hp), f_X12_where_117 K33 x1 x4 x5 S = some r → ho_G p l e s m args below meth c yM E S0 4 7 (some (.int r.1), r.2) 117 [(0, .ref (E.2.1 0)), (1, .int x1), (4, .int x4), (5, .int x5)] [] S := by
  intro x1 x4 x5 S h H locs ls hR hl
  unfold f_X12_where_117 at h
  refine lv_iload C.1 C.2.1 dX12_where_117 (lv_at hl 2 rfl) ?_
  refine lv_istore_n (lv' := [(2, .int x4), (0, .ref (E.2.1 0)), (1, .int x1), (4, .int x4), (5, .int x5)]) C.1 C.2.1 dX12_where_119 rfl hl (by decide) rfl (fun ls hl => ?_)
  refine lv_iload C.1 C.2.1 dX12_where_120 (lv_at hl 4 rfl) ?_
  refine lv_istore_n (lv' := [(3, .int x5), (2, .int x4), (0, .ref (E.2.1 0)), (1, .int x1), (4, .int x4), (5, .int x5)]) C.1 C.2.1 dX12_where_122 rfl hl (by decide) rfl (fun ls hl => ?_)
  exact w_X12_where_123 C K33 hK33 x1 x4 x5 x4 S h _ _ _ hR (lv_sub hl [2, 3, 1, 0, 4] rfl)
def f_X12_where_97 (K33 : Int32 → Int32 → Int32 → Int32 → Hp → Option (Int32 × Hp)) (K55 : Int32 → Int32 → Int32 → Int32 → Int32 → Int32 → Hp → Option (Int32 × Hp)) (x1 : Int32) (x2 : Int32) (x3 : Int32) (x4 : Int32) (x5 : Int32) (x6 : Int32) (S : Hp) : Option (Int32 × Hp) :=
  le1 (x6 + (1 : Int32)) (fun v1 => K55 x1 x2 x3 x4 x5 v1 S)
set_option maxHeartbeats 4000000 in
set_option maxRecDepth 100000 in
theorem w_X12_where_97 {p : Program} {l : Launch} {e : Env} {s : State} {m : MethodId} {args : Array Value} {below : List Frame} {meth : Method} {c : Code} {E : Ev} {S0 : Hp} {r : (Int32 × Hp)} (C : ho_I p s m args meth c RX12 cX12_where 7 (some .int)) (K33 : Int32 → Int32 → Int32 → Int32 → Hp → Option (Int32 × Hp)) (K55 : Int32 → Int32 → Int32 → Int32 → Int32 → Int32 → Hp → Option (Int32 × Hp)) (hK33 : ∀ (y1 : Int32) (y2 : Int32) (y3 : Int32) (y4 : Int32) (S : Hp), K33 y1 y2 y3 y4 S = some r → ho_G p l e s m args below meth c yM E S0 4 7 (some (.int r.1), r.2) 33 [(0, .ref (E.2.1 0)), (1, .int y1), (2, .int y2), (3, .int y3), (4, .int y4)] [] S) (hK55 : ∀ (y1 : Int32) (y2 : Int32) (y3 : Int32) (y4 : Int32) (y5 : Int32) (y6 : Int32) (S : Hp), K55 y1 y2 y3 y4 y5 y6 S = some r → ho_G p l e s m args below meth c yM E S0 4 7 (some (.int r.1), r.2) 55 [(0, .ref (E.2.1 0)), (1, .int y1), (2, .int y2), (3, .int y3), (4, .int y4), (5, .int y5), (6, .int y6)] [] S) :
    ∀ (x1 : Int32) (x2 : Int32) (x3 : Int32) (x4 : Int32) (x5 : Int32) (x6 : Int32) (S : Hp), f_X12_where_97 K33 K55 x1 x2 x3 x4 x5 x6 S = some r → ho_G p l e s m args below meth c yM E S0 4 7 (some (.int r.1), r.2) 97 [(0, .ref (E.2.1 0)), (1, .int x1), (2, .int x2), (3, .int x3), (4, .int x4), (5, .int x5), (6, .int x6)] [] S := by
  intro x1 x2 x3 x4 x5 x6 S h H locs ls hR hl
  unfold f_X12_where_97 at h
  obtain ⟨v1, e1, h⟩ := le1_ok h
  refine lv_iinc (v := v1) (lv' := [(6, .int v1), (0, .ref (E.2.1 0)), (1, .int x1), (2, .int x2), (3, .int x3), (4, .int x4), (5, .int x5)]) C.1 C.2.1 dX12_where_97 hl (k := 6) rfl (by rw [e1]; rfl) (by decide) rfl (fun ls hl => ?_)
  refine lv_goto (tgt := 55) C.1 C.2.1 dX12_where_100 (by decide) ?_
  exact hK55 x1 x2 x3 x4 x5 v1 S h _ _ _ hR (lv_sub hl [1, 2, 3, 4, 5, 6, 0] rfl)
def f_X12_where_55 (K33 : Int32 → Int32 → Int32 → Int32 → Hp → Option (Int32 × Hp)) : Nat → Int32 → Int32 → Int32 → Int32 → Int32 → Int32 → Hp → Option (Int32 × Hp)
  | 0, _, _, _, _, _, _, _ => none
  | k + 1, x1, x2, x3, x4, x5, x6, S => ob2 (f_X12_allTricks S) (fun r1 S1 => if r1 < x6 then if x2 = (-1 : Int32) then f_X12_where_117 K33 x1 x4 x5 S1 else if x5 < x3 then f_X12_where_117 K33 x1 x4 x5 S1 else f_X12_where_123 K33 x1 x2 x3 x4 S1 else ldI S1 70 64 x6 (fun v2 => if v2 = 0 then f_X12_where_97 K33 (f_X12_where_55 K33 k) x1 x2 x3 x4 x5 x6 S1 else ob2 (f_X12_alike x4 x6 S1) (fun r3 S3 => if r3 ≤ x5 then f_X12_where_97 K33 (f_X12_where_55 K33 k) x1 x2 x3 x4 x5 x6 S3 else ob2 (f_X12_alike x4 x6 S3) (fun r4 S4 => f_X12_where_97 K33 (f_X12_where_55 K33 k) x1 x2 x3 x4 r4 x6 S4))))
set_option maxHeartbeats 4000000 in
set_option maxRecDepth 100000 in
theorem w_X12_where_55 {p : Program} {l : Launch} {e : Env} {s : State} {m : MethodId} {args : Array Value} {below : List Frame} {meth : Method} {c : Code} {E : Ev} {S0 : Hp} {r : (Int32 × Hp)} (C : ho_I p s m args meth c RX12 cX12_where 7 (some .int)) (K33 : Int32 → Int32 → Int32 → Int32 → Hp → Option (Int32 × Hp)) (hK33 : ∀ (y1 : Int32) (y2 : Int32) (y3 : Int32) (y4 : Int32) (S : Hp), K33 y1 y2 y3 y4 S = some r → ho_G p l e s m args below meth c yM E S0 4 7 (some (.int r.1), r.2) 33 [(0, .ref (E.2.1 0)), (1, .int y1), (2, .int y2), (3, .int y3), (4, .int y4)] [] S) :
    ∀ (k : Nat) (x1 : Int32) (x2 : Int32) (x3 : Int32) (x4 : Int32) (x5 : Int32) (x6 : Int32) (S : Hp), f_X12_where_55 K33 k x1 x2 x3 x4 x5 x6 S = some r → ho_G p l e s m args below meth c yM E S0 4 7 (some (.int r.1), r.2) 55 [(0, .ref (E.2.1 0)), (1, .int x1), (2, .int x2), (3, .int x3), (4, .int x4), (5, .int x5), (6, .int x6)] [] S := by
  intro k
  induction k with
  | zero =>
    intro x1 x2 x3 x4 x5 x6 S h
    exact absurd (show (none : Option (Int32 × Hp)) = some r from h) (by simp)
  | succ k ih =>
    intro x1 x2 x3 x4 x5 x6 S h H locs ls hR hl
    rw [f_X12_where_55] at h
    refine lv_iload C.1 C.2.1 dX12_where_55 (lv_at hl 6 rfl) ?_
    refine lv_aload_n C.1 C.2.1 dX12_where_57 rfl (lv_at hl 0 rfl) ?_
    obtain ⟨r1, S1, h1, h⟩ := ob2_ok h
    refine hr_Vi (v := r1) (S' := S1) (As := []) (rest := [.int x6]) C cf12 (c_X12_allTricks l E _ _ h1) yv_X12_allTricks lk_RX12_452 rfl aM_0 rfl rfl hl.1 (Nat.le_of_ble_eq_true rfl) (by decide) (by decide) hR (ho_A hR) dX12_where_58 (fun H locs hR => ?_)
    refine lv_icmp_gt (tgt := 103) C.1 C.2.1 dX12_where_61 (by decide) (fun hc => ?_) (fun hc => ?_)
    · replace h := if_t h hc
      refine lv_iload_n C.1 C.2.1 dX12_where_103 rfl (lv_at hl 2 rfl) ?_
      refine lv_iconst (v := (-1 : Int32)) C.1 C.2.1 dX12_where_104 (by decide) ?_
      refine lv_icmp_eq (tgt := 117) C.1 C.2.1 dX12_where_105 (by decide) (fun hc => ?_) (fun hc => ?_)
      · replace h := if_t h hc
        exact w_X12_where_117 C K33 hK33 x1 x4 x5 S1 h _ _ _ hR (lv_sub hl [0, 1, 4, 5] rfl)
      · replace h := if_f h hc
        refine lv_iload C.1 C.2.1 dX12_where_108 (lv_at hl 5 rfl) ?_
        refine lv_iload_n C.1 C.2.1 dX12_where_110 rfl (lv_at hl 3 rfl) ?_
        refine lv_icmp_lt (tgt := 117) C.1 C.2.1 dX12_where_111 (by decide) (fun hc => ?_) (fun hc => ?_)
        · replace h := if_t h hc
          exact w_X12_where_117 C K33 hK33 x1 x4 x5 S1 h _ _ _ hR (lv_sub hl [0, 1, 4, 5] rfl)
        · replace h := if_f h hc
          refine lv_goto (tgt := 123) C.1 C.2.1 dX12_where_114 (by decide) ?_
          exact w_X12_where_123 C K33 hK33 x1 x2 x3 x4 S1 h _ _ _ hR (lv_sub hl [0, 1, 2, 3, 4] rfl)
    · replace h := if_f h hc
      refine lv_aload_n C.1 C.2.1 dX12_where_64 rfl (lv_at hl 0 rfl) ?_
      refine ho_getR (a' := 70) C cf12 fM_166 hR aM_0 rfl dX12_where_65 ?_
      refine lv_iload C.1 C.2.1 dX12_where_68 (lv_at hl 6 rfl) ?_
      obtain ⟨v2, e2, hi2, h⟩ := ldI_ok h
      refine hr_zld C hR aM_70 hi2 e2 dX12_where_70 ?_
      refine lv_if_eq (tgt := 97) C.1 C.2.1 dX12_where_71 (by decide) (fun hc => ?_) (fun hc => ?_)
      · replace h := if_t h hc
        exact w_X12_where_97 C K33 (f_X12_where_55 K33 k) hK33 ih x1 x2 x3 x4 x5 x6 S1 h _ _ _ hR (lv_sub hl [0, 1, 2, 3, 4, 5, 6] rfl)
      · replace h := if_f h hc
        refine lv_aload_n C.1 C.2.1 dX12_where_74 rfl (lv_at hl 0 rfl) ?_
        refine lv_iload C.1 C.2.1 dX12_where_75 (lv_at hl 4 rfl) ?_
        refine lv_iload C.1 C.2.1 dX12_where_77 (lv_at hl 6 rfl) ?_
        obtain ⟨r3, S3, h3, h⟩ := ob2_ok h
        refine hr_Vi (v := r3) (S' := S3) (As := [.int x4, .int x6]) (rest := []) C cf12 (c_X12_alike l E x4 x6 _ _ h3) yv_X12_alike lk_RX12_577 rfl aM_0 rfl rfl hl.1 (Nat.le_of_ble_eq_true rfl) (by decide) (by decide) hR (ho_A hR) dX12_where_79 (fun H locs hR => ?_)
        refine lv_iload C.1 C.2.1 dX12_where_82 (lv_at hl 5 rfl) ?_
        refine lv_icmp_le (tgt := 97) C.1 C.2.1 dX12_where_84 (by decide) (fun hc => ?_) (fun hc => ?_)
        · replace h := if_t h hc
          exact w_X12_where_97 C K33 (f_X12_where_55 K33 k) hK33 ih x1 x2 x3 x4 x5 x6 S3 h _ _ _ hR (lv_sub hl [0, 1, 2, 3, 4, 5, 6] rfl)
        · replace h := if_f h hc
          refine lv_aload_n C.1 C.2.1 dX12_where_87 rfl (lv_at hl 0 rfl) ?_
          refine lv_iload C.1 C.2.1 dX12_where_88 (lv_at hl 4 rfl) ?_
          refine lv_iload C.1 C.2.1 dX12_where_90 (lv_at hl 6 rfl) ?_
          obtain ⟨r4, S4, h4, h⟩ := ob2_ok h
          refine hr_Vi (v := r4) (S' := S4) (As := [.int x4, .int x6]) (rest := []) C cf12 (c_X12_alike l E x4 x6 _ _ h4) yv_X12_alike lk_RX12_577 rfl aM_0 rfl rfl hl.1 (Nat.le_of_ble_eq_true rfl) (by decide) (by decide) hR (ho_A hR) dX12_where_92 (fun H locs hR => ?_)
          refine lv_istore (lv' := [(5, .int r4), (0, .ref (E.2.1 0)), (1, .int x1), (2, .int x2), (3, .int x3), (4, .int x4), (6, .int x6)]) C.1 C.2.1 dX12_where_95 hl (by decide) rfl (fun ls hl => ?_)
          exact w_X12_where_97 C K33 (f_X12_where_55 K33 k) hK33 ih x1 x2 x3 x4 r4 x6 S4 h _ _ _ hR (lv_sub hl [1, 2, 3, 4, 5, 0, 6] rfl)
def f_X12_where_33 : Nat → Int32 → Int32 → Int32 → Int32 → Hp → Option (Int32 × Hp)
  | 0, _, _, _, _, _ => none
  | k + 1, x1, x2, x3, x4, S => ob2 (f_X12_provinceMany S) (fun r1 S1 => if r1 ≤ x4 then f_X12_where_129 x1 x2 x3 S1 else if (S1.1 0 70) ≤ 0 then f_X12_where_129 x1 x2 x3 S1 else f_X12_where_55 (f_X12_where_33 k) 5000 x1 x2 x3 x4 (0 : Int32) (0 : Int32) S1)
set_option maxHeartbeats 4000000 in
set_option maxRecDepth 100000 in
theorem w_X12_where_33 {p : Program} {l : Launch} {e : Env} {s : State} {m : MethodId} {args : Array Value} {below : List Frame} {meth : Method} {c : Code} {E : Ev} {S0 : Hp} {r : (Int32 × Hp)} (C : ho_I p s m args meth c RX12 cX12_where 7 (some .int)) :
    ∀ (k : Nat) (x1 : Int32) (x2 : Int32) (x3 : Int32) (x4 : Int32) (S : Hp), f_X12_where_33 k x1 x2 x3 x4 S = some r → ho_G p l e s m args below meth c yM E S0 4 7 (some (.int r.1), r.2) 33 [(0, .ref (E.2.1 0)), (1, .int x1), (2, .int x2), (3, .int x3), (4, .int x4)] [] S := by
  intro k
  induction k with
  | zero =>
    intro x1 x2 x3 x4 S h
    exact absurd (show (none : Option (Int32 × Hp)) = some r from h) (by simp)
  | succ k ih =>
    intro x1 x2 x3 x4 S h H locs ls hR hl
    rw [f_X12_where_33] at h
    refine lv_iload C.1 C.2.1 dX12_where_33 (lv_at hl 4 rfl) ?_
    refine lv_aload_n C.1 C.2.1 dX12_where_35 rfl (lv_at hl 0 rfl) ?_
    obtain ⟨r1, S1, h1, h⟩ := ob2_ok h
    refine hr_Vi (v := r1) (S' := S1) (As := []) (rest := [.int x4]) C cf12 (c_X12_provinceMany l E _ _ h1) yv_X12_provinceMany lk_RX12_407 rfl aM_0 rfl rfl hl.1 (Nat.le_of_ble_eq_true rfl) (by decide) (by decide) hR (ho_A hR) dX12_where_36 (fun H locs hR => ?_)
    refine lv_icmp_ge (tgt := 129) C.1 C.2.1 dX12_where_39 (by decide) (fun hc => ?_) (fun hc => ?_)
    · replace h := if_t h hc
      exact w_X12_where_129 C x1 x2 x3 S1 h _ _ _ hR (lv_sub hl [1, 2, 3] rfl)
    · replace h := if_f h hc
      refine lv_aload_n C.1 C.2.1 dX12_where_42 rfl (lv_at hl 0 rfl) ?_
      refine ho_getI C cf12 fM_568 hR aM_0 dX12_where_43 ?_
      refine lv_if_le (tgt := 129) C.1 C.2.1 dX12_where_46 (by decide) (fun hc => ?_) (fun hc => ?_)
      · replace h := if_t h hc
        exact w_X12_where_129 C x1 x2 x3 S1 h _ _ _ hR (lv_sub hl [1, 2, 3] rfl)
      · replace h := if_f h hc
        refine lv_iconst (v := (0 : Int32)) C.1 C.2.1 dX12_where_49 (by decide) ?_
        refine lv_istore (lv' := [(5, .int (0 : Int32)), (0, .ref (E.2.1 0)), (1, .int x1), (2, .int x2), (3, .int x3), (4, .int x4)]) C.1 C.2.1 dX12_where_50 hl (by decide) rfl (fun ls hl => ?_)
        refine lv_iconst (v := (0 : Int32)) C.1 C.2.1 dX12_where_52 (by decide) ?_
        refine lv_istore (lv' := [(6, .int (0 : Int32)), (5, .int (0 : Int32)), (0, .ref (E.2.1 0)), (1, .int x1), (2, .int x2), (3, .int x3), (4, .int x4)]) C.1 C.2.1 dX12_where_53 hl (by decide) rfl (fun ls hl => ?_)
        exact w_X12_where_55 C (f_X12_where_33 k) ih 5000 x1 x2 x3 x4 (0 : Int32) (0 : Int32) S1 h _ _ _ hR (lv_sub hl [2, 3, 4, 5, 6, 1, 0] rfl)
def f_X12_where (x1 : Int32) (S : Hp) : Option (Int32 × Hp) :=
  ob2 (f_X12_isAhead (1 : Int32) (1 : Int32) (1 : Int32) S) (fun r1 S1 => if r1 = 0 then some ((-1 : Int32), S1) else ob2 (f_X12_isIn (x1.toInt64) (0 : Int64) (1 : Int64) S1) (fun r2 S2 => if r2 = 0 then some ((-1 : Int32), S2) else ob (f_X12_laysShows S2) (fun S3 => f_X12_where_33 5000 x1 (-1 : Int32) (0 : Int32) (0 : Int32) S3)))
set_option maxHeartbeats 4000000 in
set_option maxRecDepth 100000 in
theorem c_X12_where (l : Launch) (E : Ev) (x1 : Int32) (S : Hp) (r : (Int32 × Hp)) (h : f_X12_where x1 S = some r) : ho_M l yM E yX12_where cX12_where 7 (some .int) 4 [.ref (E.2.1 0), .int x1] S (some (.int r.1), r.2) := by
  refine ho_in (by decide) (Nat.le_of_ble_eq_true rfl) ?_
  intro p e s m args below meth c C hR ls hl
  have C : ho_I p s m args meth c RX12 cX12_where 7 (some .int) := C
  have hl : lv_has ls 7 [(0, .ref (E.2.1 0)), (1, .int x1)] := hl
  unfold f_X12_where at h
  refine lv_aload_n C.1 C.2.1 dX12_where_0 rfl (lv_at hl 0 rfl) ?_
  refine lv_iconst (v := (1 : Int32)) C.1 C.2.1 dX12_where_1 (by decide) ?_
  refine lv_iconst (v := (1 : Int32)) C.1 C.2.1 dX12_where_2 (by decide) ?_
  refine lv_iconst (v := (1 : Int32)) C.1 C.2.1 dX12_where_3 (by decide) ?_
  obtain ⟨r1, S1, h1, h⟩ := ob2_ok h
  refine hr_Vi (v := r1) (S' := S1) (As := [.int (1 : Int32), .int (1 : Int32), .int (1 : Int32)]) (rest := []) C cf12 (c_X12_isAhead l E (1 : Int32) (1 : Int32) (1 : Int32) _ _ h1) yv_X12_isAhead lk_RX12_551 rfl aM_0 rfl rfl hl.1 (Nat.le_of_ble_eq_true rfl) (by decide) (by decide) hR (ho_A hR) dX12_where_4 (fun H locs hR => ?_)
  refine lv_if_eq (tgt := 20) C.1 C.2.1 dX12_where_7 (by decide) (fun hc => ?_) (fun hc => ?_)
  · replace h := if_t h hc
    refine lv_iconst (v := (-1 : Int32)) C.1 C.2.1 dX12_where_20 (by decide) ?_
    exact ho_iret C hR h dX12_where_21
  · replace h := if_f h hc
    refine lv_iload_n C.1 C.2.1 dX12_where_10 rfl (lv_at hl 1 rfl) ?_
    refine lv_i2l (v := (x1.toInt64)) C.1 C.2.1 dX12_where_11 rfl ?_
    refine lv_lconst (v := (0 : Int64)) C.1 C.2.1 dX12_where_12 (by decide) ?_
    refine lv_lconst (v := (1 : Int64)) C.1 C.2.1 dX12_where_13 (by decide) ?_
    obtain ⟨r2, S2, h2, h⟩ := ob2_ok h
    refine hr_Si (v := r2) (S' := S2) (As := [.long (x1.toInt64), .long (0 : Int64), .long (1 : Int64)]) (rest := []) C (c_X12_isIn l E (x1.toInt64) (0 : Int64) (1 : Int64) _ _ h2) ys_X12_isIn lk_RX12_304 rfl rfl hl.1 (Nat.le_of_ble_eq_true rfl) (by decide) (by decide) hR (ho_A hR) dX12_where_14 (fun H locs hR => ?_)
    refine lv_if_ne (tgt := 22) C.1 C.2.1 dX12_where_17 (by decide) (fun hc => ?_) (fun hc => ?_)
    · replace h := if_f h hc
      refine lv_aload_n C.1 C.2.1 dX12_where_22 rfl (lv_at hl 0 rfl) ?_
      obtain ⟨S3, h3, h⟩ := ob_ok h
      refine hr_Vv (S' := S3) (As := []) (rest := []) C cf12 (c_X12_laysShows l E _ _ h3) yv_X12_laysShows lk_RX12_574 rfl aM_0 rfl rfl hl.1 (Nat.le_of_ble_eq_true rfl) (by decide) (by decide) hR (ho_A hR) dX12_where_23 (fun H locs hR => ?_)
      refine lv_iconst (v := (-1 : Int32)) C.1 C.2.1 dX12_where_26 (by decide) ?_
      refine lv_istore_n (lv' := [(2, .int (-1 : Int32)), (0, .ref (E.2.1 0)), (1, .int x1)]) C.1 C.2.1 dX12_where_27 rfl hl (by decide) rfl (fun ls hl => ?_)
      refine lv_iconst (v := (0 : Int32)) C.1 C.2.1 dX12_where_28 (by decide) ?_
      refine lv_istore_n (lv' := [(3, .int (0 : Int32)), (2, .int (-1 : Int32)), (0, .ref (E.2.1 0)), (1, .int x1)]) C.1 C.2.1 dX12_where_29 rfl hl (by decide) rfl (fun ls hl => ?_)
      refine lv_iconst (v := (0 : Int32)) C.1 C.2.1 dX12_where_30 (by decide) ?_
      refine lv_istore (lv' := [(4, .int (0 : Int32)), (3, .int (0 : Int32)), (2, .int (-1 : Int32)), (0, .ref (E.2.1 0)), (1, .int x1)]) C.1 C.2.1 dX12_where_31 hl (by decide) rfl (fun ls hl => ?_)
      exact w_X12_where_33 C 5000 x1 (-1 : Int32) (0 : Int32) (0 : Int32) S3 h _ _ _ hR (lv_sub hl [3, 4, 2, 1, 0] rfl)
    · replace h := if_t h hc
      refine lv_iconst (v := (-1 : Int32)) C.1 C.2.1 dX12_where_20 (by decide) ?_
      exact ho_iret C hR h dX12_where_21
theorem dX12_doWatch_0 : decode cX12_doWatch 0 = .ok (.iconst 0, 1) := by decide +kernel
theorem dX12_doWatch_1 : decode cX12_doWatch 1 = .ok (.istore_n 3, 1) := by decide +kernel
theorem dX12_doWatch_2 : decode cX12_doWatch 2 = .ok (.iload_n 3, 1) := by decide +kernel
theorem dX12_doWatch_3 : decode cX12_doWatch 3 = .ok (.aload_n 0, 1) := by decide +kernel
theorem dX12_doWatch_4 : decode cX12_doWatch 4 = .ok (.invokevirtual 410, 3) := by decide +kernel
theorem dX12_doWatch_7 : decode cX12_doWatch 7 = .ok (.if_icmp .ge 76, 3) := by decide +kernel
theorem dX12_doWatch_10 : decode cX12_doWatch 10 = .ok (.iconst 0, 1) := by decide +kernel
theorem dX12_doWatch_11 : decode cX12_doWatch 11 = .ok (.istore 4, 2) := by decide +kernel
theorem dX12_doWatch_13 : decode cX12_doWatch 13 = .ok (.iconst 0, 1) := by decide +kernel
theorem dX12_doWatch_14 : decode cX12_doWatch 14 = .ok (.istore 5, 2) := by decide +kernel
theorem dX12_doWatch_16 : decode cX12_doWatch 16 = .ok (.iload 5, 2) := by decide +kernel
theorem dX12_doWatch_18 : decode cX12_doWatch 18 = .ok (.aload_n 0, 1) := by decide +kernel
theorem dX12_doWatch_19 : decode cX12_doWatch 19 = .ok (.invokevirtual 413, 3) := by decide +kernel
theorem dX12_doWatch_22 : decode cX12_doWatch 22 = .ok (.if_icmp .ge 48, 3) := by decide +kernel
theorem dX12_doWatch_25 : decode cX12_doWatch 25 = .ok (.iload 4, 2) := by decide +kernel
theorem dX12_doWatch_27 : decode cX12_doWatch 27 = .ok (.ifCond .ne 30, 3) := by decide +kernel
theorem dX12_doWatch_30 : decode cX12_doWatch 30 = .ok (.iload_n 1, 1) := by decide +kernel
theorem dX12_doWatch_31 : decode cX12_doWatch 31 = .ok (.iload 5, 2) := by decide +kernel
theorem dX12_doWatch_33 : decode cX12_doWatch 33 = .ok (.ishr, 1) := by decide +kernel
theorem dX12_doWatch_34 : decode cX12_doWatch 34 = .ok (.iconst 1, 1) := by decide +kernel
theorem dX12_doWatch_35 : decode cX12_doWatch 35 = .ok (.iand, 1) := by decide +kernel
theorem dX12_doWatch_36 : decode cX12_doWatch 36 = .ok (.iconst 1, 1) := by decide +kernel
theorem dX12_doWatch_37 : decode cX12_doWatch 37 = .ok (.if_icmp .ne 24, 3) := by decide +kernel
theorem dX12_doWatch_40 : decode cX12_doWatch 40 = .ok (.aload_n 0, 1) := by decide +kernel
theorem dX12_doWatch_41 : decode cX12_doWatch 41 = .ok (.iload_n 3, 1) := by decide +kernel
theorem dX12_doWatch_42 : decode cX12_doWatch 42 = .ok (.iload 5, 2) := by decide +kernel
theorem dX12_doWatch_44 : decode cX12_doWatch 44 = .ok (.aload_n 0, 1) := by decide +kernel
theorem dX12_doWatch_45 : decode cX12_doWatch 45 = .ok (.iload 5, 2) := by decide +kernel
theorem dX12_doWatch_47 : decode cX12_doWatch 47 = .ok (.invokevirtual 441, 3) := by decide +kernel
theorem dX12_doWatch_50 : decode cX12_doWatch 50 = .ok (.invokevirtual 445, 3) := by decide +kernel
theorem dX12_doWatch_53 : decode cX12_doWatch 53 = .ok (.iload_n 2, 1) := by decide +kernel
theorem dX12_doWatch_54 : decode cX12_doWatch 54 = .ok (.if_icmp .lt 7, 3) := by decide +kernel
theorem dX12_doWatch_57 : decode cX12_doWatch 57 = .ok (.iconst 1, 1) := by decide +kernel
theorem dX12_doWatch_58 : decode cX12_doWatch 58 = .ok (.goto 4, 3) := by decide +kernel
theorem dX12_doWatch_61 : decode cX12_doWatch 61 = .ok (.iconst 0, 1) := by decide +kernel
theorem dX12_doWatch_62 : decode cX12_doWatch 62 = .ok (.istore 4, 2) := by decide +kernel
theorem dX12_doWatch_64 : decode cX12_doWatch 64 = .ok (.iinc 5 1, 3) := by decide +kernel
theorem dX12_doWatch_67 : decode cX12_doWatch 67 = .ok (.goto (-51), 3) := by decide +kernel
theorem dX12_doWatch_70 : decode cX12_doWatch 70 = .ok (.iload 4, 2) := by decide +kernel
theorem dX12_doWatch_72 : decode cX12_doWatch 72 = .ok (.ifCond .ne 5, 3) := by decide +kernel
theorem dX12_doWatch_75 : decode cX12_doWatch 75 = .ok (.iconst 0, 1) := by decide +kernel
theorem dX12_doWatch_76 : decode cX12_doWatch 76 = .ok (.ireturn, 1) := by decide +kernel
theorem dX12_doWatch_77 : decode cX12_doWatch 77 = .ok (.iinc 3 1, 3) := by decide +kernel
theorem dX12_doWatch_80 : decode cX12_doWatch 80 = .ok (.goto (-78), 3) := by decide +kernel
theorem dX12_doWatch_83 : decode cX12_doWatch 83 = .ok (.iconst 1, 1) := by decide +kernel
theorem dX12_doWatch_84 : decode cX12_doWatch 84 = .ok (.ireturn, 1) := by decide +kernel
def f_X12_doWatch_62 (K2 : Int32 → Int32 → Int32 → Hp → Option (Int32 × Hp)) (K16 : Int32 → Int32 → Int32 → Int32 → Int32 → Hp → Option (Int32 × Hp)) (x1 : Int32) (x2 : Int32) (x3 : Int32) (x5 : Int32) (z0 : Int32) (S : Hp) : Option (Int32 × Hp) :=
  le1 (x5 + (1 : Int32)) (fun v1 => K16 x1 x2 x3 z0 v1 S)
set_option maxHeartbeats 4000000 in
set_option maxRecDepth 100000 in
theorem w_X12_doWatch_62 {p : Program} {l : Launch} {e : Env} {s : State} {m : MethodId} {args : Array Value} {below : List Frame} {meth : Method} {c : Code} {E : Ev} {S0 : Hp} {r : (Int32 × Hp)} (C : ho_I p s m args meth c RX12 cX12_doWatch 6 (some .boolean)) (K2 : Int32 → Int32 → Int32 → Hp → Option (Int32 × Hp)) (K16 : Int32 → Int32 → Int32 → Int32 → Int32 → Hp → Option (Int32 × Hp)) (hK2 : ∀ (y1 : Int32) (y2 : Int32) (y3 : Int32) (S : Hp), K2 y1 y2 y3 S = some r → ho_G p l e s m args below meth c yM E S0 4 6 (some (.int r.1), r.2) 2 [(0, .ref (E.2.1 0)), (1, .int y1), (2, .int y2), (3, .int y3)] [] S) (hK16 : ∀ (y1 : Int32) (y2 : Int32) (y3 : Int32) (y4 : Int32) (y5 : Int32) (S : Hp), K16 y1 y2 y3 y4 y5 S = some r → ho_G p l e s m args below meth c yM E S0 4 6 (some (.int r.1), r.2) 16 [(0, .ref (E.2.1 0)), (1, .int y1), (2, .int y2), (3, .int y3), (4, .int y4), (5, .int y5)] [] S) :
    ∀ (x1 : Int32) (x2 : Int32) (x3 : Int32) (x5 : Int32) (z0 : Int32) (S : Hp), f_X12_doWatch_62 K2 K16 x1 x2 x3 x5 z0 S = some r → ho_G p l e s m args below meth c yM E S0 4 6 (some (.int r.1), r.2) 62 [(0, .ref (E.2.1 0)), (1, .int x1), (2, .int x2), (3, .int x3), (5, .int x5)] [.int z0] S := by
  intro x1 x2 x3 x5 z0 S h H locs ls hR hl
  unfold f_X12_doWatch_62 at h
  refine lv_istore (lv' := [(4, .int z0), (0, .ref (E.2.1 0)), (1, .int x1), (2, .int x2), (3, .int x3), (5, .int x5)]) C.1 C.2.1 dX12_doWatch_62 hl (by decide) rfl (fun ls hl => ?_)
  obtain ⟨v1, e1, h⟩ := le1_ok h
  refine lv_iinc (v := v1) (lv' := [(5, .int v1), (4, .int z0), (0, .ref (E.2.1 0)), (1, .int x1), (2, .int x2), (3, .int x3)]) C.1 C.2.1 dX12_doWatch_64 hl (k := 5) rfl (by rw [e1]; rfl) (by decide) rfl (fun ls hl => ?_)
  refine lv_goto (tgt := 16) C.1 C.2.1 dX12_doWatch_67 (by decide) ?_
  exact hK16 x1 x2 x3 z0 v1 S h _ _ _ hR (lv_sub hl [2, 3, 4, 5, 1, 0] rfl)
def f_X12_doWatch_57 (K2 : Int32 → Int32 → Int32 → Hp → Option (Int32 × Hp)) (K16 : Int32 → Int32 → Int32 → Int32 → Int32 → Hp → Option (Int32 × Hp)) (x1 : Int32) (x2 : Int32) (x3 : Int32) (x5 : Int32) (S : Hp) : Option (Int32 × Hp) :=
  f_X12_doWatch_62 K2 K16 x1 x2 x3 x5 (1 : Int32) S
set_option maxHeartbeats 4000000 in
set_option maxRecDepth 100000 in
theorem w_X12_doWatch_57 {p : Program} {l : Launch} {e : Env} {s : State} {m : MethodId} {args : Array Value} {below : List Frame} {meth : Method} {c : Code} {E : Ev} {S0 : Hp} {r : (Int32 × Hp)} (C : ho_I p s m args meth c RX12 cX12_doWatch 6 (some .boolean)) (K2 : Int32 → Int32 → Int32 → Hp → Option (Int32 × Hp)) (K16 : Int32 → Int32 → Int32 → Int32 → Int32 → Hp → Option (Int32 × Hp)) (hK2 : ∀ (y1 : Int32) (y2 : Int32) (y3 : Int32) (S : Hp), K2 y1 y2 y3 S = some r → ho_G p l e s m args below meth c yM E S0 4 6 (some (.int r.1), r.2) 2 [(0, .ref (E.2.1 0)), (1, .int y1), (2, .int y2), (3, .int y3)] [] S) (hK16 : ∀ (y1 : Int32) (y2 : Int32) (y3 : Int32) (y4 : Int32) (y5 : Int32) (S : Hp), K16 y1 y2 y3 y4 y5 S = some r → ho_G p l e s m args below meth c yM E S0 4 6 (some (.int r.1), r.2) 16 [(0, .ref (E.2.1 0)), (1, .int y1), (2, .int y2), (3, .int y3), (4, .int y4), (5, .int y5)] [] S) :
    ∀ (x1 : Int32) (x2 : Int32) (x3 : Int32) (x5 : Int32) (S : Hp), f_X12_doWatch_57 K2 K16 x1 x2 x3 x5 S = some r → ho_G p l e s m args below meth c yM E S0 4 6 (some (.int r.1), r.2) 57 [(0, .ref (E.2.1 0)), (1, .int x1), (2, .int x2), (3, .int x3), (5, .int x5)] [] S := by
  intro x1 x2 x3 x5 S h H locs ls hR hl
  unfold f_X12_doWatch_57 at h
  refine lv_iconst (v := (1 : Int32)) C.1 C.2.1 dX12_doWatch_57 (by decide) ?_
  refine lv_goto (tgt := 62) C.1 C.2.1 dX12_doWatch_58 (by decide) ?_
  exact w_X12_doWatch_62 C K2 K16 hK2 hK16 x1 x2 x3 x5 (1 : Int32) S h _ _ _ hR (lv_sub hl [0, 1, 2, 3, 4] rfl)
def f_X12_doWatch_61 (K2 : Int32 → Int32 → Int32 → Hp → Option (Int32 × Hp)) (K16 : Int32 → Int32 → Int32 → Int32 → Int32 → Hp → Option (Int32 × Hp)) (x1 : Int32) (x2 : Int32) (x3 : Int32) (x5 : Int32) (S : Hp) : Option (Int32 × Hp) :=
  f_X12_doWatch_62 K2 K16 x1 x2 x3 x5 (0 : Int32) S
set_option maxHeartbeats 4000000 in
set_option maxRecDepth 100000 in
theorem w_X12_doWatch_61 {p : Program} {l : Launch} {e : Env} {s : State} {m : MethodId} {args : Array Value} {below : List Frame} {meth : Method} {c : Code} {E : Ev} {S0 : Hp} {r : (Int32 × Hp)} (C : ho_I p s m args meth c RX12 cX12_doWatch 6 (some .boolean)) (K2 : Int32 → Int32 → Int32 → Hp → Option (Int32 × Hp)) (K16 : Int32 → Int32 → Int32 → Int32 → Int32 → Hp → Option (Int32 × Hp)) (hK2 : ∀ (y1 : Int32) (y2 : Int32) (y3 : Int32) (S : Hp), K2 y1 y2 y3 S = some r → ho_G p l e s m args below meth c yM E S0 4 6 (some (.int r.1), r.2) 2 [(0, .ref (E.2.1 0)), (1, .int y1), (2, .int y2), (3, .int y3)] [] S) (hK16 : ∀ (y1 : Int32) (y2 : Int32) (y3 : Int32) (y4 : Int32) (y5 : Int32) (S : Hp), K16 y1 y2 y3 y4 y5 S = some r → ho_G p l e s m args below meth c yM E S0 4 6 (some (.int r.1), r.2) 16 [(0, .ref (E.2.1 0)), (1, .int y1), (2, .int y2), (3, .int y3), (4, .int y4), (5, .int y5)] [] S) :
    ∀ (x1 : Int32) (x2 : Int32) (x3 : Int32) (x5 : Int32) (S : Hp), f_X12_doWatch_61 K2 K16 x1 x2 x3 x5 S = some r → ho_G p l e s m args below meth c yM E S0 4 6 (some (.int r.1), r.2) 61 [(0, .ref (E.2.1 0)), (1, .int x1), (2, .int x2), (3, .int x3), (5, .int x5)] [] S := by
  intro x1 x2 x3 x5 S h H locs ls hR hl
  unfold f_X12_doWatch_61 at h
  refine lv_iconst (v := (0 : Int32)) C.1 C.2.1 dX12_doWatch_61 (by decide) ?_
  exact w_X12_doWatch_62 C K2 K16 hK2 hK16 x1 x2 x3 x5 (0 : Int32) S h _ _ _ hR (lv_sub hl [0, 1, 2, 3, 4] rfl)
def f_X12_doWatch_16 (K2 : Int32 → Int32 → Int32 → Hp → Option (Int32 × Hp)) : Nat → Int32 → Int32 → Int32 → Int32 → Int32 → Hp → Option (Int32 × Hp)
  | 0, _, _, _, _, _, _ => none
  | k + 1, x1, x2, x3, x4, x5, S => ob2 (f_X12_watcherMany S) (fun r1 S1 => if r1 ≤ x5 then if x4 = 0 then some ((0 : Int32), S1) else le1 (x3 + (1 : Int32)) (fun v2 => K2 x1 x2 v2 S1) else if x4 = 0 then if ((x1 >>> (x5 &&& 31)) &&& (1 : Int32)) = (1 : Int32) then ob2 (f_X12_seatOf x5 S1) (fun r3 S3 => ob2 (f_X12_sightBy x3 x5 r3 S3) (fun r4 S4 => if r4 < x2 then f_X12_doWatch_61 K2 (f_X12_doWatch_16 K2 k) x1 x2 x3 x5 S4 else f_X12_doWatch_57 K2 (f_X12_doWatch_16 K2 k) x1 x2 x3 x5 S4)) else f_X12_doWatch_61 K2 (f_X12_doWatch_16 K2 k) x1 x2 x3 x5 S1 else f_X12_doWatch_57 K2 (f_X12_doWatch_16 K2 k) x1 x2 x3 x5 S1)
set_option maxHeartbeats 4000000 in
set_option maxRecDepth 100000 in
theorem w_X12_doWatch_16 {p : Program} {l : Launch} {e : Env} {s : State} {m : MethodId} {args : Array Value} {below : List Frame} {meth : Method} {c : Code} {E : Ev} {S0 : Hp} {r : (Int32 × Hp)} (C : ho_I p s m args meth c RX12 cX12_doWatch 6 (some .boolean)) (K2 : Int32 → Int32 → Int32 → Hp → Option (Int32 × Hp)) (hK2 : ∀ (y1 : Int32) (y2 : Int32) (y3 : Int32) (S : Hp), K2 y1 y2 y3 S = some r → ho_G p l e s m args below meth c yM E S0 4 6 (some (.int r.1), r.2) 2 [(0, .ref (E.2.1 0)), (1, .int y1), (2, .int y2), (3, .int y3)] [] S) :
    ∀ (k : Nat) (x1 : Int32) (x2 : Int32) (x3 : Int32) (x4 : Int32) (x5 : Int32) (S : Hp), f_X12_doWatch_16 K2 k x1 x2 x3 x4 x5 S = some r → ho_G p l e s m args below meth c yM E S0 4 6 (some (.int r.1), r.2) 16 [(0, .ref (E.2.1 0)), (1, .int x1), (2, .int x2), (3, .int x3), (4, .int x4), (5, .int x5)] [] S := by
  intro k
  induction k with
  | zero =>
    intro x1 x2 x3 x4 x5 S h
    exact absurd (show (none : Option (Int32 × Hp)) = some r from h) (by simp)
  | succ k ih =>
    intro x1 x2 x3 x4 x5 S h H locs ls hR hl
    rw [f_X12_doWatch_16] at h
    refine lv_iload C.1 C.2.1 dX12_doWatch_16 (lv_at hl 5 rfl) ?_
    refine lv_aload_n C.1 C.2.1 dX12_doWatch_18 rfl (lv_at hl 0 rfl) ?_
    obtain ⟨r1, S1, h1, h⟩ := ob2_ok h
    refine hr_Vi (v := r1) (S' := S1) (As := []) (rest := [.int x5]) C cf12 (c_X12_watcherMany l E _ _ h1) yv_X12_watcherMany lk_RX12_413 rfl aM_0 rfl rfl hl.1 (Nat.le_of_ble_eq_true rfl) (by decide) (by decide) hR (ho_A hR) dX12_doWatch_19 (fun H locs hR => ?_)
    refine lv_icmp_ge (tgt := 70) C.1 C.2.1 dX12_doWatch_22 (by decide) (fun hc => ?_) (fun hc => ?_)
    · replace h := if_t h hc
      refine lv_iload C.1 C.2.1 dX12_doWatch_70 (lv_at hl 4 rfl) ?_
      refine lv_if_ne (tgt := 77) C.1 C.2.1 dX12_doWatch_72 (by decide) (fun hc => ?_) (fun hc => ?_)
      · replace h := if_f h hc
        obtain ⟨v2, e2, h⟩ := le1_ok h
        refine lv_iinc (v := v2) (lv' := [(3, .int v2), (0, .ref (E.2.1 0)), (1, .int x1), (2, .int x2), (4, .int x4), (5, .int x5)]) C.1 C.2.1 dX12_doWatch_77 hl (k := 3) rfl (by rw [e2]; rfl) (by decide) rfl (fun ls hl => ?_)
        refine lv_goto (tgt := 2) C.1 C.2.1 dX12_doWatch_80 (by decide) ?_
        exact hK2 x1 x2 v2 S1 h _ _ _ hR (lv_sub hl [1, 2, 3, 0] rfl)
      · replace h := if_t h hc
        refine lv_iconst (v := (0 : Int32)) C.1 C.2.1 dX12_doWatch_75 (by decide) ?_
        exact ho_zret C hR (Or.inl rfl) h dX12_doWatch_76
    · replace h := if_f h hc
      refine lv_iload C.1 C.2.1 dX12_doWatch_25 (lv_at hl 4 rfl) ?_
      refine lv_if_ne (tgt := 57) C.1 C.2.1 dX12_doWatch_27 (by decide) (fun hc => ?_) (fun hc => ?_)
      · replace h := if_f h hc
        exact w_X12_doWatch_57 C K2 (f_X12_doWatch_16 K2 k) hK2 ih x1 x2 x3 x5 S1 h _ _ _ hR (lv_sub hl [0, 1, 2, 3, 5] rfl)
      · replace h := if_t h hc
        refine lv_iload_n C.1 C.2.1 dX12_doWatch_30 rfl (lv_at hl 1 rfl) ?_
        refine lv_iload C.1 C.2.1 dX12_doWatch_31 (lv_at hl 5 rfl) ?_
        refine lv_ishr C.1 C.2.1 dX12_doWatch_33 ?_
        refine lv_iconst (v := (1 : Int32)) C.1 C.2.1 dX12_doWatch_34 (by decide) ?_
        refine lv_iand C.1 C.2.1 dX12_doWatch_35 ?_
        refine lv_iconst (v := (1 : Int32)) C.1 C.2.1 dX12_doWatch_36 (by decide) ?_
        refine lv_icmp_ne (tgt := 61) C.1 C.2.1 dX12_doWatch_37 (by decide) (fun hc => ?_) (fun hc => ?_)
        · replace h := if_f h hc
          exact w_X12_doWatch_61 C K2 (f_X12_doWatch_16 K2 k) hK2 ih x1 x2 x3 x5 S1 h _ _ _ hR (lv_sub hl [0, 1, 2, 3, 5] rfl)
        · replace h := if_t h hc
          refine lv_aload_n C.1 C.2.1 dX12_doWatch_40 rfl (lv_at hl 0 rfl) ?_
          refine lv_iload_n C.1 C.2.1 dX12_doWatch_41 rfl (lv_at hl 3 rfl) ?_
          refine lv_iload C.1 C.2.1 dX12_doWatch_42 (lv_at hl 5 rfl) ?_
          refine lv_aload_n C.1 C.2.1 dX12_doWatch_44 rfl (lv_at hl 0 rfl) ?_
          refine lv_iload C.1 C.2.1 dX12_doWatch_45 (lv_at hl 5 rfl) ?_
          obtain ⟨r3, S3, h3, h⟩ := ob2_ok h
          refine hr_Vi (v := r3) (S' := S3) (As := [.int x5]) (rest := [.int x5, .int x3, .ref (E.2.1 0)]) C cf12 (c_X12_seatOf l E x5 _ _ h3) yv_X12_seatOf lk_RX12_441 rfl aM_0 rfl rfl hl.1 (Nat.le_of_ble_eq_true rfl) (by decide) (by decide) hR (ho_A hR) dX12_doWatch_47 (fun H locs hR => ?_)
          obtain ⟨r4, S4, h4, h⟩ := ob2_ok h
          refine hr_Vi (v := r4) (S' := S4) (As := [.int x3, .int x5, .int r3]) (rest := []) C cf12 (c_X12_sightBy l E x3 x5 r3 _ _ h4) yv_X12_sightBy lk_RX12_445 rfl aM_0 rfl rfl hl.1 (Nat.le_of_ble_eq_true rfl) (by decide) (by decide) hR (ho_A hR) dX12_doWatch_50 (fun H locs hR => ?_)
          refine lv_iload_n C.1 C.2.1 dX12_doWatch_53 rfl (lv_at hl 2 rfl) ?_
          refine lv_icmp_lt (tgt := 61) C.1 C.2.1 dX12_doWatch_54 (by decide) (fun hc => ?_) (fun hc => ?_)
          · replace h := if_t h hc
            exact w_X12_doWatch_61 C K2 (f_X12_doWatch_16 K2 k) hK2 ih x1 x2 x3 x5 S4 h _ _ _ hR (lv_sub hl [0, 1, 2, 3, 5] rfl)
          · replace h := if_f h hc
            exact w_X12_doWatch_57 C K2 (f_X12_doWatch_16 K2 k) hK2 ih x1 x2 x3 x5 S4 h _ _ _ hR (lv_sub hl [0, 1, 2, 3, 5] rfl)
def f_X12_doWatch_2 : Nat → Int32 → Int32 → Int32 → Hp → Option (Int32 × Hp)
  | 0, _, _, _, _ => none
  | k + 1, x1, x2, x3, S => ob2 (f_X12_trickMany S) (fun r1 S1 => if r1 ≤ x3 then some ((1 : Int32), S1) else f_X12_doWatch_16 (f_X12_doWatch_2 k) 5000 x1 x2 x3 (0 : Int32) (0 : Int32) S1)
set_option maxHeartbeats 4000000 in
set_option maxRecDepth 100000 in
theorem w_X12_doWatch_2 {p : Program} {l : Launch} {e : Env} {s : State} {m : MethodId} {args : Array Value} {below : List Frame} {meth : Method} {c : Code} {E : Ev} {S0 : Hp} {r : (Int32 × Hp)} (C : ho_I p s m args meth c RX12 cX12_doWatch 6 (some .boolean)) :
    ∀ (k : Nat) (x1 : Int32) (x2 : Int32) (x3 : Int32) (S : Hp), f_X12_doWatch_2 k x1 x2 x3 S = some r → ho_G p l e s m args below meth c yM E S0 4 6 (some (.int r.1), r.2) 2 [(0, .ref (E.2.1 0)), (1, .int x1), (2, .int x2), (3, .int x3)] [] S := by
  intro k
  induction k with
  | zero =>
    intro x1 x2 x3 S h
    exact absurd (show (none : Option (Int32 × Hp)) = some r from h) (by simp)
  | succ k ih =>
    intro x1 x2 x3 S h H locs ls hR hl
    rw [f_X12_doWatch_2] at h
    refine lv_iload_n C.1 C.2.1 dX12_doWatch_2 rfl (lv_at hl 3 rfl) ?_
    refine lv_aload_n C.1 C.2.1 dX12_doWatch_3 rfl (lv_at hl 0 rfl) ?_
    obtain ⟨r1, S1, h1, h⟩ := ob2_ok h
    refine hr_Vi (v := r1) (S' := S1) (As := []) (rest := [.int x3]) C cf12 (c_X12_trickMany l E _ _ h1) yv_X12_trickMany lk_RX12_410 rfl aM_0 rfl rfl hl.1 (Nat.le_of_ble_eq_true rfl) (by decide) (by decide) hR (ho_A hR) dX12_doWatch_4 (fun H locs hR => ?_)
    refine lv_icmp_ge (tgt := 83) C.1 C.2.1 dX12_doWatch_7 (by decide) (fun hc => ?_) (fun hc => ?_)
    · replace h := if_t h hc
      refine lv_iconst (v := (1 : Int32)) C.1 C.2.1 dX12_doWatch_83 (by decide) ?_
      exact ho_zret C hR (Or.inr rfl) h dX12_doWatch_84
    · replace h := if_f h hc
      refine lv_iconst (v := (0 : Int32)) C.1 C.2.1 dX12_doWatch_10 (by decide) ?_
      refine lv_istore (lv' := [(4, .int (0 : Int32)), (0, .ref (E.2.1 0)), (1, .int x1), (2, .int x2), (3, .int x3)]) C.1 C.2.1 dX12_doWatch_11 hl (by decide) rfl (fun ls hl => ?_)
      refine lv_iconst (v := (0 : Int32)) C.1 C.2.1 dX12_doWatch_13 (by decide) ?_
      refine lv_istore (lv' := [(5, .int (0 : Int32)), (4, .int (0 : Int32)), (0, .ref (E.2.1 0)), (1, .int x1), (2, .int x2), (3, .int x3)]) C.1 C.2.1 dX12_doWatch_14 hl (by decide) rfl (fun ls hl => ?_)
      exact w_X12_doWatch_16 C (f_X12_doWatch_2 k) ih 5000 x1 x2 x3 (0 : Int32) (0 : Int32) S1 h _ _ _ hR (lv_sub hl [2, 3, 4, 5, 1, 0] rfl)
def f_X12_doWatch (x1 : Int32) (x2 : Int32) (S : Hp) : Option (Int32 × Hp) :=
  f_X12_doWatch_2 5000 x1 x2 (0 : Int32) S
set_option maxHeartbeats 4000000 in
set_option maxRecDepth 100000 in
theorem c_X12_doWatch (l : Launch) (E : Ev) (x1 : Int32) (x2 : Int32) (S : Hp) (r : (Int32 × Hp)) (h : f_X12_doWatch x1 x2 S = some r) : ho_M l yM E yX12_doWatch cX12_doWatch 6 (some .boolean) 4 [.ref (E.2.1 0), .int x1, .int x2] S (some (.int r.1), r.2) := by
  refine ho_in (by decide) (Nat.le_of_ble_eq_true rfl) ?_
  intro p e s m args below meth c C hR ls hl
  have C : ho_I p s m args meth c RX12 cX12_doWatch 6 (some .boolean) := C
  have hl : lv_has ls 6 [(0, .ref (E.2.1 0)), (1, .int x1), (2, .int x2)] := hl
  unfold f_X12_doWatch at h
  refine lv_iconst (v := (0 : Int32)) C.1 C.2.1 dX12_doWatch_0 (by decide) ?_
  refine lv_istore_n (lv' := [(3, .int (0 : Int32)), (0, .ref (E.2.1 0)), (1, .int x1), (2, .int x2)]) C.1 C.2.1 dX12_doWatch_1 rfl hl (by decide) rfl (fun ls hl => ?_)
  exact w_X12_doWatch_2 C 5000 x1 x2 (0 : Int32) S h _ _ _ hR (lv_sub hl [1, 2, 3, 0] rfl)
theorem dX12_watch_0 : decode cX12_watch 0 = .ok (.aload_n 0, 1) := by decide +kernel
theorem dX12_watch_1 : decode cX12_watch 1 = .ok (.getfield 397, 3) := by decide +kernel
theorem dX12_watch_4 : decode cX12_watch 4 = .ok (.ifCond .eq 15, 3) := by decide +kernel
theorem dX12_watch_7 : decode cX12_watch 7 = .ok (.iload_n 1, 1) := by decide +kernel
theorem dX12_watch_8 : decode cX12_watch 8 = .ok (.i2l, 1) := by decide +kernel
theorem dX12_watch_9 : decode cX12_watch 9 = .ok (.lconst 0, 1) := by decide +kernel
theorem dX12_watch_10 : decode cX12_watch 10 = .ok (.ldc2_w 439, 3) := by decide +kernel
theorem dX12_watch_13 : decode cX12_watch 13 = .ok (.invokestatic 304, 3) := by decide +kernel
theorem dX12_watch_16 : decode cX12_watch 16 = .ok (.ifCond .ne 5, 3) := by decide +kernel
theorem dX12_watch_19 : decode cX12_watch 19 = .ok (.iconst (-1), 1) := by decide +kernel
theorem dX12_watch_20 : decode cX12_watch 20 = .ok (.ireturn, 1) := by decide +kernel
theorem dX12_watch_21 : decode cX12_watch 21 = .ok (.iconst (-1), 1) := by decide +kernel
theorem dX12_watch_22 : decode cX12_watch 22 = .ok (.istore_n 2, 1) := by decide +kernel
theorem dX12_watch_23 : decode cX12_watch 23 = .ok (.iconst 0, 1) := by decide +kernel
theorem dX12_watch_24 : decode cX12_watch 24 = .ok (.istore_n 3, 1) := by decide +kernel
theorem dX12_watch_25 : decode cX12_watch 25 = .ok (.iload_n 3, 1) := by decide +kernel
theorem dX12_watch_26 : decode cX12_watch 26 = .ok (.iconst 1, 1) := by decide +kernel
theorem dX12_watch_27 : decode cX12_watch 27 = .ok (.aload_n 0, 1) := by decide +kernel
theorem dX12_watch_28 : decode cX12_watch 28 = .ok (.invokevirtual 413, 3) := by decide +kernel
theorem dX12_watch_31 : decode cX12_watch 31 = .ok (.ishl, 1) := by decide +kernel
theorem dX12_watch_32 : decode cX12_watch 32 = .ok (.if_icmp .ge 36, 3) := by decide +kernel
theorem dX12_watch_35 : decode cX12_watch 35 = .ok (.iload_n 2, 1) := by decide +kernel
theorem dX12_watch_36 : decode cX12_watch 36 = .ok (.iconst (-1), 1) := by decide +kernel
theorem dX12_watch_37 : decode cX12_watch 37 = .ok (.if_icmp .eq 14, 3) := by decide +kernel
theorem dX12_watch_40 : decode cX12_watch 40 = .ok (.iload_n 3, 1) := by decide +kernel
theorem dX12_watch_41 : decode cX12_watch 41 = .ok (.invokestatic 470, 3) := by decide +kernel
theorem dX12_watch_44 : decode cX12_watch 44 = .ok (.iload_n 2, 1) := by decide +kernel
theorem dX12_watch_45 : decode cX12_watch 45 = .ok (.invokestatic 470, 3) := by decide +kernel
theorem dX12_watch_48 : decode cX12_watch 48 = .ok (.if_icmp .ge 14, 3) := by decide +kernel
theorem dX12_watch_51 : decode cX12_watch 51 = .ok (.aload_n 0, 1) := by decide +kernel
theorem dX12_watch_52 : decode cX12_watch 52 = .ok (.iload_n 3, 1) := by decide +kernel
theorem dX12_watch_53 : decode cX12_watch 53 = .ok (.iload_n 1, 1) := by decide +kernel
theorem dX12_watch_54 : decode cX12_watch 54 = .ok (.invokevirtual 580, 3) := by decide +kernel
theorem dX12_watch_57 : decode cX12_watch 57 = .ok (.ifCond .eq 5, 3) := by decide +kernel
theorem dX12_watch_60 : decode cX12_watch 60 = .ok (.iload_n 3, 1) := by decide +kernel
theorem dX12_watch_61 : decode cX12_watch 61 = .ok (.istore_n 2, 1) := by decide +kernel
theorem dX12_watch_62 : decode cX12_watch 62 = .ok (.iinc 3 1, 3) := by decide +kernel
theorem dX12_watch_65 : decode cX12_watch 65 = .ok (.goto (-40), 3) := by decide +kernel
theorem dX12_watch_68 : decode cX12_watch 68 = .ok (.iload_n 2, 1) := by decide +kernel
theorem dX12_watch_69 : decode cX12_watch 69 = .ok (.ireturn, 1) := by decide +kernel
def f_X12_watch_62 (K25 : Int32 → Int32 → Int32 → Hp → Option (Int32 × Hp)) (x1 : Int32) (x2 : Int32) (x3 : Int32) (S : Hp) : Option (Int32 × Hp) :=
  le1 (x3 + (1 : Int32)) (fun v1 => K25 x1 x2 v1 S)
set_option maxHeartbeats 4000000 in
set_option maxRecDepth 100000 in
theorem w_X12_watch_62 {p : Program} {l : Launch} {e : Env} {s : State} {m : MethodId} {args : Array Value} {below : List Frame} {meth : Method} {c : Code} {E : Ev} {S0 : Hp} {r : (Int32 × Hp)} (C : ho_I p s m args meth c RX12 cX12_watch 4 (some .int)) (K25 : Int32 → Int32 → Int32 → Hp → Option (Int32 × Hp)) (hK25 : ∀ (y1 : Int32) (y2 : Int32) (y3 : Int32) (S : Hp), K25 y1 y2 y3 S = some r → ho_G p l e s m args below meth c yM E S0 5 4 (some (.int r.1), r.2) 25 [(0, .ref (E.2.1 0)), (1, .int y1), (2, .int y2), (3, .int y3)] [] S) :
    ∀ (x1 : Int32) (x2 : Int32) (x3 : Int32) (S : Hp), f_X12_watch_62 K25 x1 x2 x3 S = some r → ho_G p l e s m args below meth c yM E S0 5 4 (some (.int r.1), r.2) 62 [(0, .ref (E.2.1 0)), (1, .int x1), (2, .int x2), (3, .int x3)] [] S := by
  intro x1 x2 x3 S h H locs ls hR hl
  unfold f_X12_watch_62 at h
  obtain ⟨v1, e1, h⟩ := le1_ok h
  refine lv_iinc (v := v1) (lv' := [(3, .int v1), (0, .ref (E.2.1 0)), (1, .int x1), (2, .int x2)]) C.1 C.2.1 dX12_watch_62 hl (k := 3) rfl (by rw [e1]; rfl) (by decide) rfl (fun ls hl => ?_)
  refine lv_goto (tgt := 25) C.1 C.2.1 dX12_watch_65 (by decide) ?_
  exact hK25 x1 x2 v1 S h _ _ _ hR (lv_sub hl [1, 2, 3, 0] rfl)
def f_X12_watch_51 (K25 : Int32 → Int32 → Int32 → Hp → Option (Int32 × Hp)) (x1 : Int32) (x2 : Int32) (x3 : Int32) (S : Hp) : Option (Int32 × Hp) :=
  ob2 (f_X12_doWatch x3 x1 S) (fun r1 S1 => if r1 = 0 then f_X12_watch_62 K25 x1 x2 x3 S1 else f_X12_watch_62 K25 x1 x3 x3 S1)
set_option maxHeartbeats 4000000 in
set_option maxRecDepth 100000 in
theorem w_X12_watch_51 {p : Program} {l : Launch} {e : Env} {s : State} {m : MethodId} {args : Array Value} {below : List Frame} {meth : Method} {c : Code} {E : Ev} {S0 : Hp} {r : (Int32 × Hp)} (C : ho_I p s m args meth c RX12 cX12_watch 4 (some .int)) (K25 : Int32 → Int32 → Int32 → Hp → Option (Int32 × Hp)) (hK25 : ∀ (y1 : Int32) (y2 : Int32) (y3 : Int32) (S : Hp), K25 y1 y2 y3 S = some r → ho_G p l e s m args below meth c yM E S0 5 4 (some (.int r.1), r.2) 25 [(0, .ref (E.2.1 0)), (1, .int y1), (2, .int y2), (3, .int y3)] [] S) :
    ∀ (x1 : Int32) (x2 : Int32) (x3 : Int32) (S : Hp), f_X12_watch_51 K25 x1 x2 x3 S = some r → ho_G p l e s m args below meth c yM E S0 5 4 (some (.int r.1), r.2) 51 [(0, .ref (E.2.1 0)), (1, .int x1), (2, .int x2), (3, .int x3)] [] S := by
  intro x1 x2 x3 S h H locs ls hR hl
  unfold f_X12_watch_51 at h
  refine lv_aload_n C.1 C.2.1 dX12_watch_51 rfl (lv_at hl 0 rfl) ?_
  refine lv_iload_n C.1 C.2.1 dX12_watch_52 rfl (lv_at hl 3 rfl) ?_
  refine lv_iload_n C.1 C.2.1 dX12_watch_53 rfl (lv_at hl 1 rfl) ?_
  obtain ⟨r1, S1, h1, h⟩ := ob2_ok h
  refine hr_Vi (v := r1) (S' := S1) (As := [.int x3, .int x1]) (rest := []) C cf12 (c_X12_doWatch l E x3 x1 _ _ h1) yv_X12_doWatch lk_RX12_580 rfl aM_0 rfl rfl hl.1 (Nat.le_of_ble_eq_true rfl) (by decide) (by decide) hR (ho_A hR) dX12_watch_54 (fun H locs hR => ?_)
  refine lv_if_eq (tgt := 62) C.1 C.2.1 dX12_watch_57 (by decide) (fun hc => ?_) (fun hc => ?_)
  · replace h := if_t h hc
    exact w_X12_watch_62 C K25 hK25 x1 x2 x3 S1 h _ _ _ hR (lv_sub hl [0, 1, 2, 3] rfl)
  · replace h := if_f h hc
    refine lv_iload_n C.1 C.2.1 dX12_watch_60 rfl (lv_at hl 3 rfl) ?_
    refine lv_istore_n (lv' := [(2, .int x3), (0, .ref (E.2.1 0)), (1, .int x1), (3, .int x3)]) C.1 C.2.1 dX12_watch_61 rfl hl (by decide) rfl (fun ls hl => ?_)
    exact w_X12_watch_62 C K25 hK25 x1 x3 x3 S1 h _ _ _ hR (lv_sub hl [1, 2, 0, 3] rfl)
def f_X12_watch_25 : Nat → Int32 → Int32 → Int32 → Hp → Option (Int32 × Hp)
  | 0, _, _, _, _ => none
  | k + 1, x1, x2, x3, S => ob2 (f_X12_watcherMany S) (fun r1 S1 => if ((1 : Int32) <<< (r1 &&& 31)) ≤ x3 then some (x2, S1) else if x2 = (-1 : Int32) then f_X12_watch_51 (f_X12_watch_25 k) x1 x2 x3 S1 else ob2 (f_X12_bits x3 S1) (fun r2 S2 => ob2 (f_X12_bits x2 S2) (fun r3 S3 => if r3 ≤ r2 then f_X12_watch_62 (f_X12_watch_25 k) x1 x2 x3 S3 else f_X12_watch_51 (f_X12_watch_25 k) x1 x2 x3 S3)))
set_option maxHeartbeats 4000000 in
set_option maxRecDepth 100000 in
theorem w_X12_watch_25 {p : Program} {l : Launch} {e : Env} {s : State} {m : MethodId} {args : Array Value} {below : List Frame} {meth : Method} {c : Code} {E : Ev} {S0 : Hp} {r : (Int32 × Hp)} (C : ho_I p s m args meth c RX12 cX12_watch 4 (some .int)) :
    ∀ (k : Nat) (x1 : Int32) (x2 : Int32) (x3 : Int32) (S : Hp), f_X12_watch_25 k x1 x2 x3 S = some r → ho_G p l e s m args below meth c yM E S0 5 4 (some (.int r.1), r.2) 25 [(0, .ref (E.2.1 0)), (1, .int x1), (2, .int x2), (3, .int x3)] [] S := by
  intro k
  induction k with
  | zero =>
    intro x1 x2 x3 S h
    exact absurd (show (none : Option (Int32 × Hp)) = some r from h) (by simp)
  | succ k ih =>
    intro x1 x2 x3 S h H locs ls hR hl
    rw [f_X12_watch_25] at h
    refine lv_iload_n C.1 C.2.1 dX12_watch_25 rfl (lv_at hl 3 rfl) ?_
    refine lv_iconst (v := (1 : Int32)) C.1 C.2.1 dX12_watch_26 (by decide) ?_
    refine lv_aload_n C.1 C.2.1 dX12_watch_27 rfl (lv_at hl 0 rfl) ?_
    obtain ⟨r1, S1, h1, h⟩ := ob2_ok h
    refine hr_Vi (v := r1) (S' := S1) (As := []) (rest := [.int (1 : Int32), .int x3]) C cf12 (c_X12_watcherMany l E _ _ h1) yv_X12_watcherMany lk_RX12_413 rfl aM_0 rfl rfl hl.1 (Nat.le_of_ble_eq_true rfl) (by decide) (by decide) hR (ho_A hR) dX12_watch_28 (fun H locs hR => ?_)
    refine lv_ishl C.1 C.2.1 dX12_watch_31 ?_
    refine lv_icmp_ge (tgt := 68) C.1 C.2.1 dX12_watch_32 (by decide) (fun hc => ?_) (fun hc => ?_)
    · replace h := if_t h hc
      refine lv_iload_n C.1 C.2.1 dX12_watch_68 rfl (lv_at hl 2 rfl) ?_
      exact ho_iret C hR h dX12_watch_69
    · replace h := if_f h hc
      refine lv_iload_n C.1 C.2.1 dX12_watch_35 rfl (lv_at hl 2 rfl) ?_
      refine lv_iconst (v := (-1 : Int32)) C.1 C.2.1 dX12_watch_36 (by decide) ?_
      refine lv_icmp_eq (tgt := 51) C.1 C.2.1 dX12_watch_37 (by decide) (fun hc => ?_) (fun hc => ?_)
      · replace h := if_t h hc
        exact w_X12_watch_51 C (f_X12_watch_25 k) ih x1 x2 x3 S1 h _ _ _ hR (lv_sub hl [0, 1, 2, 3] rfl)
      · replace h := if_f h hc
        refine lv_iload_n C.1 C.2.1 dX12_watch_40 rfl (lv_at hl 3 rfl) ?_
        obtain ⟨r2, S2, h2, h⟩ := ob2_ok h
        refine hr_Si (v := r2) (S' := S2) (As := [.int x3]) (rest := []) C (c_X12_bits l E x3 _ _ h2) ys_X12_bits lk_RX12_470 rfl rfl hl.1 (Nat.le_of_ble_eq_true rfl) (by decide) (by decide) hR (ho_A hR) dX12_watch_41 (fun H locs hR => ?_)
        refine lv_iload_n C.1 C.2.1 dX12_watch_44 rfl (lv_at hl 2 rfl) ?_
        obtain ⟨r3, S3, h3, h⟩ := ob2_ok h
        refine hr_Si (v := r3) (S' := S3) (As := [.int x2]) (rest := [.int r2]) C (c_X12_bits l E x2 _ _ h3) ys_X12_bits lk_RX12_470 rfl rfl hl.1 (Nat.le_of_ble_eq_true rfl) (by decide) (by decide) hR (ho_A hR) dX12_watch_45 (fun H locs hR => ?_)
        refine lv_icmp_ge (tgt := 62) C.1 C.2.1 dX12_watch_48 (by decide) (fun hc => ?_) (fun hc => ?_)
        · replace h := if_t h hc
          exact w_X12_watch_62 C (f_X12_watch_25 k) ih x1 x2 x3 S3 h _ _ _ hR (lv_sub hl [0, 1, 2, 3] rfl)
        · replace h := if_f h hc
          exact w_X12_watch_51 C (f_X12_watch_25 k) ih x1 x2 x3 S3 h _ _ _ hR (lv_sub hl [0, 1, 2, 3] rfl)
def f_X12_watch (x1 : Int32) (S : Hp) : Option (Int32 × Hp) :=
  if (S.1 0 52) = 0 then some ((-1 : Int32), S) else ob2 (f_X12_isIn (x1.toInt64) (0 : Int64) (99 : Int64) S) (fun r1 S1 => if r1 = 0 then some ((-1 : Int32), S1) else f_X12_watch_25 5000 x1 (-1 : Int32) (0 : Int32) S1)
set_option maxHeartbeats 4000000 in
set_option maxRecDepth 100000 in
theorem c_X12_watch (l : Launch) (E : Ev) (x1 : Int32) (S : Hp) (r : (Int32 × Hp)) (h : f_X12_watch x1 S = some r) : ho_M l yM E yX12_watch cX12_watch 4 (some .int) 5 [.ref (E.2.1 0), .int x1] S (some (.int r.1), r.2) := by
  refine ho_in (by decide) (Nat.le_of_ble_eq_true rfl) ?_
  intro p e s m args below meth c C hR ls hl
  have C : ho_I p s m args meth c RX12 cX12_watch 4 (some .int) := C
  have hl : lv_has ls 4 [(0, .ref (E.2.1 0)), (1, .int x1)] := hl
  unfold f_X12_watch at h
  refine lv_aload_n C.1 C.2.1 dX12_watch_0 rfl (lv_at hl 0 rfl) ?_
  refine ho_getI C cf12 fM_397 hR aM_0 dX12_watch_1 ?_
  refine lv_if_eq (tgt := 19) C.1 C.2.1 dX12_watch_4 (by decide) (fun hc => ?_) (fun hc => ?_)
  · replace h := if_t h hc
    refine lv_iconst (v := (-1 : Int32)) C.1 C.2.1 dX12_watch_19 (by decide) ?_
    exact ho_iret C hR h dX12_watch_20
  · replace h := if_f h hc
    refine lv_iload_n C.1 C.2.1 dX12_watch_7 rfl (lv_at hl 1 rfl) ?_
    refine lv_i2l (v := (x1.toInt64)) C.1 C.2.1 dX12_watch_8 rfl ?_
    refine lv_lconst (v := (0 : Int64)) C.1 C.2.1 dX12_watch_9 (by decide) ?_
    refine lv_ldc2 (v := (99 : Int64)) C.1 C.2.1 C.2.2.2.2.1 (C.2.2.2.2.2.1 _ kc_RX12_439) dX12_watch_10 ?_
    obtain ⟨r1, S1, h1, h⟩ := ob2_ok h
    refine hr_Si (v := r1) (S' := S1) (As := [.long (x1.toInt64), .long (0 : Int64), .long (99 : Int64)]) (rest := []) C (c_X12_isIn l E (x1.toInt64) (0 : Int64) (99 : Int64) _ _ h1) ys_X12_isIn lk_RX12_304 rfl rfl hl.1 (Nat.le_of_ble_eq_true rfl) (by decide) (by decide) hR (ho_A hR) dX12_watch_13 (fun H locs hR => ?_)
    refine lv_if_ne (tgt := 21) C.1 C.2.1 dX12_watch_16 (by decide) (fun hc => ?_) (fun hc => ?_)
    · replace h := if_f h hc
      refine lv_iconst (v := (-1 : Int32)) C.1 C.2.1 dX12_watch_21 (by decide) ?_
      refine lv_istore_n (lv' := [(2, .int (-1 : Int32)), (0, .ref (E.2.1 0)), (1, .int x1)]) C.1 C.2.1 dX12_watch_22 rfl hl (by decide) rfl (fun ls hl => ?_)
      refine lv_iconst (v := (0 : Int32)) C.1 C.2.1 dX12_watch_23 (by decide) ?_
      refine lv_istore_n (lv' := [(3, .int (0 : Int32)), (2, .int (-1 : Int32)), (0, .ref (E.2.1 0)), (1, .int x1)]) C.1 C.2.1 dX12_watch_24 rfl hl (by decide) rfl (fun ls hl => ?_)
      exact w_X12_watch_25 C 5000 x1 (-1 : Int32) (0 : Int32) S1 h _ _ _ hR (lv_sub hl [2, 3, 1, 0] rfl)
    · replace h := if_t h hc
      refine lv_iconst (v := (-1 : Int32)) C.1 C.2.1 dX12_watch_19 (by decide) ?_
      exact ho_iret C hR h dX12_watch_20
theorem dX12_seat_0 : decode cX12_seat 0 = .ok (.aload_n 0, 1) := by decide +kernel
theorem dX12_seat_1 : decode cX12_seat 1 = .ok (.iload_n 1, 1) := by decide +kernel
theorem dX12_seat_2 : decode cX12_seat 2 = .ok (.invokevirtual 539, 3) := by decide +kernel
theorem dX12_seat_5 : decode cX12_seat 5 = .ok (.ifCond .ne 5, 3) := by decide +kernel
theorem dX12_seat_8 : decode cX12_seat 8 = .ok (.iconst (-1), 1) := by decide +kernel
theorem dX12_seat_9 : decode cX12_seat 9 = .ok (.ireturn, 1) := by decide +kernel
theorem dX12_seat_10 : decode cX12_seat 10 = .ok (.iconst 0, 1) := by decide +kernel
theorem dX12_seat_11 : decode cX12_seat 11 = .ok (.istore_n 2, 1) := by decide +kernel
theorem dX12_seat_12 : decode cX12_seat 12 = .ok (.iconst 1, 1) := by decide +kernel
theorem dX12_seat_13 : decode cX12_seat 13 = .ok (.istore_n 3, 1) := by decide +kernel
theorem dX12_seat_14 : decode cX12_seat 14 = .ok (.iload_n 3, 1) := by decide +kernel
theorem dX12_seat_15 : decode cX12_seat 15 = .ok (.bipush 10, 2) := by decide +kernel
theorem dX12_seat_17 : decode cX12_seat 17 = .ok (.if_icmp .ge 26, 3) := by decide +kernel
theorem dX12_seat_20 : decode cX12_seat 20 = .ok (.aload_n 0, 1) := by decide +kernel
theorem dX12_seat_21 : decode cX12_seat 21 = .ok (.iload_n 1, 1) := by decide +kernel
theorem dX12_seat_22 : decode cX12_seat 22 = .ok (.iload_n 3, 1) := by decide +kernel
theorem dX12_seat_23 : decode cX12_seat 23 = .ok (.invokevirtual 542, 3) := by decide +kernel
theorem dX12_seat_26 : decode cX12_seat 26 = .ok (.aload_n 0, 1) := by decide +kernel
theorem dX12_seat_27 : decode cX12_seat 27 = .ok (.iload_n 1, 1) := by decide +kernel
theorem dX12_seat_28 : decode cX12_seat 28 = .ok (.iload_n 2, 1) := by decide +kernel
theorem dX12_seat_29 : decode cX12_seat 29 = .ok (.invokevirtual 542, 3) := by decide +kernel
theorem dX12_seat_32 : decode cX12_seat 32 = .ok (.if_icmp .le 5, 3) := by decide +kernel
theorem dX12_seat_35 : decode cX12_seat 35 = .ok (.iload_n 3, 1) := by decide +kernel
theorem dX12_seat_36 : decode cX12_seat 36 = .ok (.istore_n 2, 1) := by decide +kernel
theorem dX12_seat_37 : decode cX12_seat 37 = .ok (.iinc 3 1, 3) := by decide +kernel
theorem dX12_seat_40 : decode cX12_seat 40 = .ok (.goto (-26), 3) := by decide +kernel
theorem dX12_seat_43 : decode cX12_seat 43 = .ok (.iload_n 2, 1) := by decide +kernel
theorem dX12_seat_44 : decode cX12_seat 44 = .ok (.ireturn, 1) := by decide +kernel
def f_X12_seat_37 (K14 : Int32 → Int32 → Int32 → Hp → Option (Int32 × Hp)) (x1 : Int32) (x2 : Int32) (x3 : Int32) (S : Hp) : Option (Int32 × Hp) :=
  le1 (x3 + (1 : Int32)) (fun v1 => K14 x1 x2 v1 S)
set_option maxHeartbeats 4000000 in
set_option maxRecDepth 100000 in
theorem w_X12_seat_37 {p : Program} {l : Launch} {e : Env} {s : State} {m : MethodId} {args : Array Value} {below : List Frame} {meth : Method} {c : Code} {E : Ev} {S0 : Hp} {r : (Int32 × Hp)} (C : ho_I p s m args meth c RX12 cX12_seat 4 (some .int)) (K14 : Int32 → Int32 → Int32 → Hp → Option (Int32 × Hp)) (hK14 : ∀ (y1 : Int32) (y2 : Int32) (y3 : Int32) (S : Hp), K14 y1 y2 y3 S = some r → ho_G p l e s m args below meth c yM E S0 5 4 (some (.int r.1), r.2) 14 [(0, .ref (E.2.1 0)), (1, .int y1), (2, .int y2), (3, .int y3)] [] S) :
    ∀ (x1 : Int32) (x2 : Int32) (x3 : Int32) (S : Hp), f_X12_seat_37 K14 x1 x2 x3 S = some r → ho_G p l e s m args below meth c yM E S0 5 4 (some (.int r.1), r.2) 37 [(0, .ref (E.2.1 0)), (1, .int x1), (2, .int x2), (3, .int x3)] [] S := by
  intro x1 x2 x3 S h H locs ls hR hl
  unfold f_X12_seat_37 at h
  obtain ⟨v1, e1, h⟩ := le1_ok h
  refine lv_iinc (v := v1) (lv' := [(3, .int v1), (0, .ref (E.2.1 0)), (1, .int x1), (2, .int x2)]) C.1 C.2.1 dX12_seat_37 hl (k := 3) rfl (by rw [e1]; rfl) (by decide) rfl (fun ls hl => ?_)
  refine lv_goto (tgt := 14) C.1 C.2.1 dX12_seat_40 (by decide) ?_
  exact hK14 x1 x2 v1 S h _ _ _ hR (lv_sub hl [1, 2, 3, 0] rfl)
def f_X12_seat_14 : Nat → Int32 → Int32 → Int32 → Hp → Option (Int32 × Hp)
  | 0, _, _, _, _ => none
  | k + 1, x1, x2, x3, S => if (10 : Int32) ≤ x3 then some (x2, S) else ob2 (f_X12_sightAll x1 x3 S) (fun r1 S1 => ob2 (f_X12_sightAll x1 x2 S1) (fun r2 S2 => if r1 ≤ r2 then f_X12_seat_37 (f_X12_seat_14 k) x1 x2 x3 S2 else f_X12_seat_37 (f_X12_seat_14 k) x1 x3 x3 S2))
set_option maxHeartbeats 4000000 in
set_option maxRecDepth 100000 in
theorem w_X12_seat_14 {p : Program} {l : Launch} {e : Env} {s : State} {m : MethodId} {args : Array Value} {below : List Frame} {meth : Method} {c : Code} {E : Ev} {S0 : Hp} {r : (Int32 × Hp)} (C : ho_I p s m args meth c RX12 cX12_seat 4 (some .int)) :
    ∀ (k : Nat) (x1 : Int32) (x2 : Int32) (x3 : Int32) (S : Hp), f_X12_seat_14 k x1 x2 x3 S = some r → ho_G p l e s m args below meth c yM E S0 5 4 (some (.int r.1), r.2) 14 [(0, .ref (E.2.1 0)), (1, .int x1), (2, .int x2), (3, .int x3)] [] S := by
  intro k
  induction k with
  | zero =>
    intro x1 x2 x3 S h
    exact absurd (show (none : Option (Int32 × Hp)) = some r from h) (by simp)
  | succ k ih =>
    intro x1 x2 x3 S h H locs ls hR hl
    rw [f_X12_seat_14] at h
    refine lv_iload_n C.1 C.2.1 dX12_seat_14 rfl (lv_at hl 3 rfl) ?_
    refine lv_bipush (v := (10 : Int32)) C.1 C.2.1 dX12_seat_15 (by decide) ?_
    refine lv_icmp_ge (tgt := 43) C.1 C.2.1 dX12_seat_17 (by decide) (fun hc => ?_) (fun hc => ?_)
    · replace h := if_t h hc
      refine lv_iload_n C.1 C.2.1 dX12_seat_43 rfl (lv_at hl 2 rfl) ?_
      exact ho_iret C hR h dX12_seat_44
    · replace h := if_f h hc
      refine lv_aload_n C.1 C.2.1 dX12_seat_20 rfl (lv_at hl 0 rfl) ?_
      refine lv_iload_n C.1 C.2.1 dX12_seat_21 rfl (lv_at hl 1 rfl) ?_
      refine lv_iload_n C.1 C.2.1 dX12_seat_22 rfl (lv_at hl 3 rfl) ?_
      obtain ⟨r1, S1, h1, h⟩ := ob2_ok h
      refine hr_Vi (v := r1) (S' := S1) (As := [.int x1, .int x3]) (rest := []) C cf12 (c_X12_sightAll l E x1 x3 _ _ h1) yv_X12_sightAll lk_RX12_542 rfl aM_0 rfl rfl hl.1 (Nat.le_of_ble_eq_true rfl) (by decide) (by decide) hR (ho_A hR) dX12_seat_23 (fun H locs hR => ?_)
      refine lv_aload_n C.1 C.2.1 dX12_seat_26 rfl (lv_at hl 0 rfl) ?_
      refine lv_iload_n C.1 C.2.1 dX12_seat_27 rfl (lv_at hl 1 rfl) ?_
      refine lv_iload_n C.1 C.2.1 dX12_seat_28 rfl (lv_at hl 2 rfl) ?_
      obtain ⟨r2, S2, h2, h⟩ := ob2_ok h
      refine hr_Vi (v := r2) (S' := S2) (As := [.int x1, .int x2]) (rest := [.int r1]) C cf12 (c_X12_sightAll l E x1 x2 _ _ h2) yv_X12_sightAll lk_RX12_542 rfl aM_0 rfl rfl hl.1 (Nat.le_of_ble_eq_true rfl) (by decide) (by decide) hR (ho_A hR) dX12_seat_29 (fun H locs hR => ?_)
      refine lv_icmp_le (tgt := 37) C.1 C.2.1 dX12_seat_32 (by decide) (fun hc => ?_) (fun hc => ?_)
      · replace h := if_t h hc
        exact w_X12_seat_37 C (f_X12_seat_14 k) ih x1 x2 x3 S2 h _ _ _ hR (lv_sub hl [0, 1, 2, 3] rfl)
      · replace h := if_f h hc
        refine lv_iload_n C.1 C.2.1 dX12_seat_35 rfl (lv_at hl 3 rfl) ?_
        refine lv_istore_n (lv' := [(2, .int x3), (0, .ref (E.2.1 0)), (1, .int x1), (3, .int x3)]) C.1 C.2.1 dX12_seat_36 rfl hl (by decide) rfl (fun ls hl => ?_)
        exact w_X12_seat_37 C (f_X12_seat_14 k) ih x1 x3 x3 S2 h _ _ _ hR (lv_sub hl [1, 2, 0, 3] rfl)
def f_X12_seat (x1 : Int32) (S : Hp) : Option (Int32 × Hp) :=
  ob2 (f_X12_isWatcher x1 S) (fun r1 S1 => if r1 = 0 then some ((-1 : Int32), S1) else f_X12_seat_14 5000 x1 (0 : Int32) (1 : Int32) S1)
set_option maxHeartbeats 4000000 in
set_option maxRecDepth 100000 in
theorem c_X12_seat (l : Launch) (E : Ev) (x1 : Int32) (S : Hp) (r : (Int32 × Hp)) (h : f_X12_seat x1 S = some r) : ho_M l yM E yX12_seat cX12_seat 4 (some .int) 5 [.ref (E.2.1 0), .int x1] S (some (.int r.1), r.2) := by
  refine ho_in (by decide) (Nat.le_of_ble_eq_true rfl) ?_
  intro p e s m args below meth c C hR ls hl
  have C : ho_I p s m args meth c RX12 cX12_seat 4 (some .int) := C
  have hl : lv_has ls 4 [(0, .ref (E.2.1 0)), (1, .int x1)] := hl
  unfold f_X12_seat at h
  refine lv_aload_n C.1 C.2.1 dX12_seat_0 rfl (lv_at hl 0 rfl) ?_
  refine lv_iload_n C.1 C.2.1 dX12_seat_1 rfl (lv_at hl 1 rfl) ?_
  obtain ⟨r1, S1, h1, h⟩ := ob2_ok h
  refine hr_Vi (v := r1) (S' := S1) (As := [.int x1]) (rest := []) C cf12 (c_X12_isWatcher l E x1 _ _ h1) yv_X12_isWatcher lk_RX12_539 rfl aM_0 rfl rfl hl.1 (Nat.le_of_ble_eq_true rfl) (by decide) (by decide) hR (ho_A hR) dX12_seat_2 (fun H locs hR => ?_)
  refine lv_if_ne (tgt := 10) C.1 C.2.1 dX12_seat_5 (by decide) (fun hc => ?_) (fun hc => ?_)
  · replace h := if_f h hc
    refine lv_iconst (v := (0 : Int32)) C.1 C.2.1 dX12_seat_10 (by decide) ?_
    refine lv_istore_n (lv' := [(2, .int (0 : Int32)), (0, .ref (E.2.1 0)), (1, .int x1)]) C.1 C.2.1 dX12_seat_11 rfl hl (by decide) rfl (fun ls hl => ?_)
    refine lv_iconst (v := (1 : Int32)) C.1 C.2.1 dX12_seat_12 (by decide) ?_
    refine lv_istore_n (lv' := [(3, .int (1 : Int32)), (2, .int (0 : Int32)), (0, .ref (E.2.1 0)), (1, .int x1)]) C.1 C.2.1 dX12_seat_13 rfl hl (by decide) rfl (fun ls hl => ?_)
    exact w_X12_seat_14 C 5000 x1 (0 : Int32) (1 : Int32) S1 h _ _ _ hR (lv_sub hl [2, 3, 1, 0] rfl)
  · replace h := if_t h hc
    refine lv_iconst (v := (-1 : Int32)) C.1 C.2.1 dX12_seat_8 (by decide) ?_
    exact ho_iret C hR h dX12_seat_9
theorem dX12_keeps_0 : decode cX12_keeps 0 = .ok (.aload_n 0, 1) := by decide +kernel
theorem dX12_keeps_1 : decode cX12_keeps 1 = .ok (.aload_n 0, 1) := by decide +kernel
theorem dX12_keeps_2 : decode cX12_keeps 2 = .ok (.getfield 583, 3) := by decide +kernel
theorem dX12_keeps_5 : decode cX12_keeps 5 = .ok (.iconst 1, 1) := by decide +kernel
theorem dX12_keeps_6 : decode cX12_keeps 6 = .ok (.iadd, 1) := by decide +kernel
theorem dX12_keeps_7 : decode cX12_keeps 7 = .ok (.bipush 20, 2) := by decide +kernel
theorem dX12_keeps_9 : decode cX12_keeps 9 = .ok (.irem, 1) := by decide +kernel
theorem dX12_keeps_10 : decode cX12_keeps 10 = .ok (.putfield 583, 3) := by decide +kernel
theorem dX12_keeps_13 : decode cX12_keeps 13 = .ok (.iconst 0, 1) := by decide +kernel
theorem dX12_keeps_14 : decode cX12_keeps 14 = .ok (.istore_n 1, 1) := by decide +kernel
theorem dX12_keeps_15 : decode cX12_keeps 15 = .ok (.iload_n 1, 1) := by decide +kernel
theorem dX12_keeps_16 : decode cX12_keeps 16 = .ok (.bipush 117, 2) := by decide +kernel
theorem dX12_keeps_18 : decode cX12_keeps 18 = .ok (.if_icmp .ge 29, 3) := by decide +kernel
theorem dX12_keeps_21 : decode cX12_keeps 21 = .ok (.aload_n 0, 1) := by decide +kernel
theorem dX12_keeps_22 : decode cX12_keeps 22 = .ok (.getfield 170, 3) := by decide +kernel
theorem dX12_keeps_25 : decode cX12_keeps 25 = .ok (.bipush 117, 2) := by decide +kernel
theorem dX12_keeps_27 : decode cX12_keeps 27 = .ok (.aload_n 0, 1) := by decide +kernel
theorem dX12_keeps_28 : decode cX12_keeps 28 = .ok (.getfield 583, 3) := by decide +kernel
theorem dX12_keeps_31 : decode cX12_keeps 31 = .ok (.imul, 1) := by decide +kernel
theorem dX12_keeps_32 : decode cX12_keeps 32 = .ok (.iload_n 1, 1) := by decide +kernel
theorem dX12_keeps_33 : decode cX12_keeps 33 = .ok (.iadd, 1) := by decide +kernel
theorem dX12_keeps_34 : decode cX12_keeps 34 = .ok (.aload_n 0, 1) := by decide +kernel
theorem dX12_keeps_35 : decode cX12_keeps 35 = .ok (.getfield 139, 3) := by decide +kernel
theorem dX12_keeps_38 : decode cX12_keeps 38 = .ok (.iload_n 1, 1) := by decide +kernel
theorem dX12_keeps_39 : decode cX12_keeps 39 = .ok (.iaload, 1) := by decide +kernel
theorem dX12_keeps_40 : decode cX12_keeps 40 = .ok (.iastore, 1) := by decide +kernel
theorem dX12_keeps_41 : decode cX12_keeps 41 = .ok (.iinc 1 1, 3) := by decide +kernel
theorem dX12_keeps_44 : decode cX12_keeps 44 = .ok (.goto (-29), 3) := by decide +kernel
theorem dX12_keeps_47 : decode cX12_keeps 47 = .ok (.aload_n 0, 1) := by decide +kernel
theorem dX12_keeps_48 : decode cX12_keeps 48 = .ok (.getfield 401, 3) := by decide +kernel
theorem dX12_keeps_51 : decode cX12_keeps 51 = .ok (.bipush 20, 2) := by decide +kernel
theorem dX12_keeps_53 : decode cX12_keeps 53 = .ok (.if_icmp .ge 13, 3) := by decide +kernel
theorem dX12_keeps_56 : decode cX12_keeps 56 = .ok (.aload_n 0, 1) := by decide +kernel
theorem dX12_keeps_57 : decode cX12_keeps 57 = .ok (.dup, 1) := by decide +kernel
theorem dX12_keeps_58 : decode cX12_keeps 58 = .ok (.getfield 401, 3) := by decide +kernel
theorem dX12_keeps_61 : decode cX12_keeps 61 = .ok (.iconst 1, 1) := by decide +kernel
theorem dX12_keeps_62 : decode cX12_keeps 62 = .ok (.iadd, 1) := by decide +kernel
theorem dX12_keeps_63 : decode cX12_keeps 63 = .ok (.putfield 401, 3) := by decide +kernel
theorem dX12_keeps_66 : decode cX12_keeps 66 = .ok (.return_, 1) := by decide +kernel
def f_X12_keeps_15 : Nat → Int32 → Hp → Option Hp
  | 0, _, _ => none
  | k + 1, x1, S => if (117 : Int32) ≤ x1 then if (20 : Int32) ≤ (S.1 0 72) then some S else le1 (ho_sI S 0 72 ((S.1 0 72) + (1 : Int32))) (fun S1 => some S1) else ldI S 55 117 x1 (fun v2 => stI S 72 2340 (((117 : Int32) * (S.1 0 73)) + x1) v2 (fun S3 => le1 (x1 + (1 : Int32)) (fun v4 => f_X12_keeps_15 k v4 S3)))
set_option maxHeartbeats 4000000 in
set_option maxRecDepth 100000 in
theorem w_X12_keeps_15 {p : Program} {l : Launch} {e : Env} {s : State} {m : MethodId} {args : Array Value} {below : List Frame} {meth : Method} {c : Code} {E : Ev} {S0 : Hp} {r : Hp} (C : ho_I p s m args meth c RX12 cX12_keeps 2 none) :
    ∀ (k : Nat) (x1 : Int32) (S : Hp), f_X12_keeps_15 k x1 S = some r → ho_G p l e s m args below meth c yM E S0 0 2 (none, r) 15 [(0, .ref (E.2.1 0)), (1, .int x1)] [] S := by
  intro k
  induction k with
  | zero =>
    intro x1 S h
    exact absurd (show (none : Option Hp) = some r from h) (by simp)
  | succ k ih =>
    intro x1 S h H locs ls hR hl
    rw [f_X12_keeps_15] at h
    refine lv_iload_n C.1 C.2.1 dX12_keeps_15 rfl (lv_at hl 1 rfl) ?_
    refine lv_bipush (v := (117 : Int32)) C.1 C.2.1 dX12_keeps_16 (by decide) ?_
    refine lv_icmp_ge (tgt := 47) C.1 C.2.1 dX12_keeps_18 (by decide) (fun hc => ?_) (fun hc => ?_)
    · replace h := if_t h hc
      refine lv_aload_n C.1 C.2.1 dX12_keeps_47 rfl (lv_at hl 0 rfl) ?_
      refine ho_getI C cf12 fM_401 hR aM_0 dX12_keeps_48 ?_
      refine lv_bipush (v := (20 : Int32)) C.1 C.2.1 dX12_keeps_51 (by decide) ?_
      refine lv_icmp_ge (tgt := 66) C.1 C.2.1 dX12_keeps_53 (by decide) (fun hc => ?_) (fun hc => ?_)
      · replace h := if_t h hc
        exact ho_vret C hR h dX12_keeps_66
      · replace h := if_f h hc
        refine lv_aload_n C.1 C.2.1 dX12_keeps_56 rfl (lv_at hl 0 rfl) ?_
        refine lv_dup C.1 C.2.1 dX12_keeps_57 rfl ?_
        refine ho_getI C cf12 fM_401 hR aM_0 dX12_keeps_58 ?_
        refine lv_iconst (v := (1 : Int32)) C.1 C.2.1 dX12_keeps_61 (by decide) ?_
        refine lv_iadd C.1 C.2.1 dX12_keeps_62 ?_
        obtain ⟨S1, e1, h⟩ := le1_ok h
        refine hr_putI C cf12 fM_401 hR aM_0 e1 dX12_keeps_63 (fun H locs hR => ?_)
        exact ho_vret C hR h dX12_keeps_66
    · replace h := if_f h hc
      refine lv_aload_n C.1 C.2.1 dX12_keeps_21 rfl (lv_at hl 0 rfl) ?_
      refine ho_getR (a' := 72) C cf12 fM_170 hR aM_0 rfl dX12_keeps_22 ?_
      refine lv_bipush (v := (117 : Int32)) C.1 C.2.1 dX12_keeps_25 (by decide) ?_
      refine lv_aload_n C.1 C.2.1 dX12_keeps_27 rfl (lv_at hl 0 rfl) ?_
      refine ho_getI C cf12 fM_583 hR aM_0 dX12_keeps_28 ?_
      refine lv_imul C.1 C.2.1 dX12_keeps_31 ?_
      refine lv_iload_n C.1 C.2.1 dX12_keeps_32 rfl (lv_at hl 1 rfl) ?_
      refine lv_iadd C.1 C.2.1 dX12_keeps_33 ?_
      refine lv_aload_n C.1 C.2.1 dX12_keeps_34 rfl (lv_at hl 0 rfl) ?_
      refine ho_getR (a' := 55) C cf12 fM_139 hR aM_0 rfl dX12_keeps_35 ?_
      refine lv_iload_n C.1 C.2.1 dX12_keeps_38 rfl (lv_at hl 1 rfl) ?_
      obtain ⟨v2, e2, hi2, h⟩ := ldI_ok h
      refine hr_ild C hR aM_55 hi2 e2 dX12_keeps_39 ?_
      obtain ⟨S3, e3, hi3, h⟩ := stI_ok h
      refine hr_ist C hR aM_72 hi3 e3 dX12_keeps_40 (fun H locs hR => ?_)
      obtain ⟨v4, e4, h⟩ := le1_ok h
      refine lv_iinc (v := v4) (lv' := [(1, .int v4), (0, .ref (E.2.1 0))]) C.1 C.2.1 dX12_keeps_41 hl (k := 1) rfl (by rw [e4]; rfl) (by decide) rfl (fun ls hl => ?_)
      refine lv_goto (tgt := 15) C.1 C.2.1 dX12_keeps_44 (by decide) ?_
      exact ih v4 S3 h _ _ _ hR (lv_sub hl [1, 0] rfl)
def f_X12_keeps (S : Hp) : Option Hp :=
  le1 (ho_sI S 0 73 (((S.1 0 73) + (1 : Int32)) - ((S.1 0 73) + (1 : Int32)) / (20 : Int32) * (20 : Int32))) (fun S1 => f_X12_keeps_15 5000 (0 : Int32) S1)
set_option maxHeartbeats 4000000 in
set_option maxRecDepth 100000 in
theorem c_X12_keeps (l : Launch) (E : Ev) (S : Hp) (r : Hp) (h : f_X12_keeps S = some r) : ho_M l yM E yX12_keeps cX12_keeps 2 none 0 [.ref (E.2.1 0)] S (none, r) := by
  refine ho_in (by decide) (Nat.le_of_ble_eq_true rfl) ?_
  intro p e s m args below meth c C hR ls hl
  have C : ho_I p s m args meth c RX12 cX12_keeps 2 none := C
  have hl : lv_has ls 2 [(0, .ref (E.2.1 0))] := hl
  unfold f_X12_keeps at h
  refine lv_aload_n C.1 C.2.1 dX12_keeps_0 rfl (lv_at hl 0 rfl) ?_
  refine lv_aload_n C.1 C.2.1 dX12_keeps_1 rfl (lv_at hl 0 rfl) ?_
  refine ho_getI C cf12 fM_583 hR aM_0 dX12_keeps_2 ?_
  refine lv_iconst (v := (1 : Int32)) C.1 C.2.1 dX12_keeps_5 (by decide) ?_
  refine lv_iadd C.1 C.2.1 dX12_keeps_6 ?_
  refine lv_bipush (v := (20 : Int32)) C.1 C.2.1 dX12_keeps_7 (by decide) ?_
  refine lv_irem C.1 C.2.1 dX12_keeps_9 (by decide) ?_
  obtain ⟨S1, e1, h⟩ := le1_ok h
  refine hr_putI C cf12 fM_583 hR aM_0 e1 dX12_keeps_10 (fun H locs hR => ?_)
  refine lv_iconst (v := (0 : Int32)) C.1 C.2.1 dX12_keeps_13 (by decide) ?_
  refine lv_istore_n (lv' := [(1, .int (0 : Int32)), (0, .ref (E.2.1 0))]) C.1 C.2.1 dX12_keeps_14 rfl hl (by decide) rfl (fun ls hl => ?_)
  exact w_X12_keeps_15 C 5000 (0 : Int32) S1 h _ _ _ hR (lv_sub hl [1, 0] rfl)
theorem dX12_undo_0 : decode cX12_undo 0 = .ok (.aload_n 0, 1) := by decide +kernel
theorem dX12_undo_1 : decode cX12_undo 1 = .ok (.getfield 401, 3) := by decide +kernel
theorem dX12_undo_4 : decode cX12_undo 4 = .ok (.ifCond .ne 15, 3) := by decide +kernel
theorem dX12_undo_7 : decode cX12_undo 7 = .ok (.aload_n 0, 1) := by decide +kernel
theorem dX12_undo_8 : decode cX12_undo 8 = .ok (.getfield 17, 3) := by decide +kernel
theorem dX12_undo_11 : decode cX12_undo 11 = .ok (.iconst 4, 1) := by decide +kernel
theorem dX12_undo_12 : decode cX12_undo 12 = .ok (.dup2, 1) := by decide +kernel
theorem dX12_undo_13 : decode cX12_undo 13 = .ok (.iaload, 1) := by decide +kernel
theorem dX12_undo_14 : decode cX12_undo 14 = .ok (.iconst 1, 1) := by decide +kernel
theorem dX12_undo_15 : decode cX12_undo 15 = .ok (.iadd, 1) := by decide +kernel
theorem dX12_undo_16 : decode cX12_undo 16 = .ok (.iastore, 1) := by decide +kernel
theorem dX12_undo_17 : decode cX12_undo 17 = .ok (.iconst 0, 1) := by decide +kernel
theorem dX12_undo_18 : decode cX12_undo 18 = .ok (.ireturn, 1) := by decide +kernel
theorem dX12_undo_19 : decode cX12_undo 19 = .ok (.iconst 0, 1) := by decide +kernel
theorem dX12_undo_20 : decode cX12_undo 20 = .ok (.istore_n 1, 1) := by decide +kernel
theorem dX12_undo_21 : decode cX12_undo 21 = .ok (.iload_n 1, 1) := by decide +kernel
theorem dX12_undo_22 : decode cX12_undo 22 = .ok (.bipush 117, 2) := by decide +kernel
theorem dX12_undo_24 : decode cX12_undo 24 = .ok (.if_icmp .ge 29, 3) := by decide +kernel
theorem dX12_undo_27 : decode cX12_undo 27 = .ok (.aload_n 0, 1) := by decide +kernel
theorem dX12_undo_28 : decode cX12_undo 28 = .ok (.getfield 139, 3) := by decide +kernel
theorem dX12_undo_31 : decode cX12_undo 31 = .ok (.iload_n 1, 1) := by decide +kernel
theorem dX12_undo_32 : decode cX12_undo 32 = .ok (.aload_n 0, 1) := by decide +kernel
theorem dX12_undo_33 : decode cX12_undo 33 = .ok (.getfield 170, 3) := by decide +kernel
theorem dX12_undo_36 : decode cX12_undo 36 = .ok (.bipush 117, 2) := by decide +kernel
theorem dX12_undo_38 : decode cX12_undo 38 = .ok (.aload_n 0, 1) := by decide +kernel
theorem dX12_undo_39 : decode cX12_undo 39 = .ok (.getfield 583, 3) := by decide +kernel
theorem dX12_undo_42 : decode cX12_undo 42 = .ok (.imul, 1) := by decide +kernel
theorem dX12_undo_43 : decode cX12_undo 43 = .ok (.iload_n 1, 1) := by decide +kernel
theorem dX12_undo_44 : decode cX12_undo 44 = .ok (.iadd, 1) := by decide +kernel
theorem dX12_undo_45 : decode cX12_undo 45 = .ok (.iaload, 1) := by decide +kernel
theorem dX12_undo_46 : decode cX12_undo 46 = .ok (.iastore, 1) := by decide +kernel
theorem dX12_undo_47 : decode cX12_undo 47 = .ok (.iinc 1 1, 3) := by decide +kernel
theorem dX12_undo_50 : decode cX12_undo 50 = .ok (.goto (-29), 3) := by decide +kernel
theorem dX12_undo_53 : decode cX12_undo 53 = .ok (.aload_n 0, 1) := by decide +kernel
theorem dX12_undo_54 : decode cX12_undo 54 = .ok (.aload_n 0, 1) := by decide +kernel
theorem dX12_undo_55 : decode cX12_undo 55 = .ok (.getfield 583, 3) := by decide +kernel
theorem dX12_undo_58 : decode cX12_undo 58 = .ok (.bipush 20, 2) := by decide +kernel
theorem dX12_undo_60 : decode cX12_undo 60 = .ok (.iadd, 1) := by decide +kernel
theorem dX12_undo_61 : decode cX12_undo 61 = .ok (.iconst 1, 1) := by decide +kernel
theorem dX12_undo_62 : decode cX12_undo 62 = .ok (.isub, 1) := by decide +kernel
theorem dX12_undo_63 : decode cX12_undo 63 = .ok (.bipush 20, 2) := by decide +kernel
theorem dX12_undo_65 : decode cX12_undo 65 = .ok (.irem, 1) := by decide +kernel
theorem dX12_undo_66 : decode cX12_undo 66 = .ok (.putfield 583, 3) := by decide +kernel
theorem dX12_undo_69 : decode cX12_undo 69 = .ok (.aload_n 0, 1) := by decide +kernel
theorem dX12_undo_70 : decode cX12_undo 70 = .ok (.dup, 1) := by decide +kernel
theorem dX12_undo_71 : decode cX12_undo 71 = .ok (.getfield 401, 3) := by decide +kernel
theorem dX12_undo_74 : decode cX12_undo 74 = .ok (.iconst 1, 1) := by decide +kernel
theorem dX12_undo_75 : decode cX12_undo 75 = .ok (.isub, 1) := by decide +kernel
theorem dX12_undo_76 : decode cX12_undo 76 = .ok (.putfield 401, 3) := by decide +kernel
theorem dX12_undo_79 : decode cX12_undo 79 = .ok (.iconst 1, 1) := by decide +kernel
theorem dX12_undo_80 : decode cX12_undo 80 = .ok (.ireturn, 1) := by decide +kernel
def f_X12_undo_21 : Nat → Int32 → Hp → Option (Int32 × Hp)
  | 0, _, _ => none
  | k + 1, x1, S => if (117 : Int32) ≤ x1 then le1 (ho_sI S 0 73 ((((S.1 0 73) + (20 : Int32)) - (1 : Int32)) - (((S.1 0 73) + (20 : Int32)) - (1 : Int32)) / (20 : Int32) * (20 : Int32))) (fun S1 => le1 (ho_sI S1 0 72 ((S1.1 0 72) - (1 : Int32))) (fun S2 => some ((1 : Int32), S2))) else ldI S 72 2340 (((117 : Int32) * (S.1 0 73)) + x1) (fun v3 => stI S 55 117 x1 v3 (fun S4 => le1 (x1 + (1 : Int32)) (fun v5 => f_X12_undo_21 k v5 S4)))
set_option maxHeartbeats 4000000 in
set_option maxRecDepth 100000 in
theorem w_X12_undo_21 {p : Program} {l : Launch} {e : Env} {s : State} {m : MethodId} {args : Array Value} {below : List Frame} {meth : Method} {c : Code} {E : Ev} {S0 : Hp} {r : (Int32 × Hp)} (C : ho_I p s m args meth c RX12 cX12_undo 2 (some .boolean)) :
    ∀ (k : Nat) (x1 : Int32) (S : Hp), f_X12_undo_21 k x1 S = some r → ho_G p l e s m args below meth c yM E S0 0 2 (some (.int r.1), r.2) 21 [(0, .ref (E.2.1 0)), (1, .int x1)] [] S := by
  intro k
  induction k with
  | zero =>
    intro x1 S h
    exact absurd (show (none : Option (Int32 × Hp)) = some r from h) (by simp)
  | succ k ih =>
    intro x1 S h H locs ls hR hl
    rw [f_X12_undo_21] at h
    refine lv_iload_n C.1 C.2.1 dX12_undo_21 rfl (lv_at hl 1 rfl) ?_
    refine lv_bipush (v := (117 : Int32)) C.1 C.2.1 dX12_undo_22 (by decide) ?_
    refine lv_icmp_ge (tgt := 53) C.1 C.2.1 dX12_undo_24 (by decide) (fun hc => ?_) (fun hc => ?_)
    · replace h := if_t h hc
      refine lv_aload_n C.1 C.2.1 dX12_undo_53 rfl (lv_at hl 0 rfl) ?_
      refine lv_aload_n C.1 C.2.1 dX12_undo_54 rfl (lv_at hl 0 rfl) ?_
      refine ho_getI C cf12 fM_583 hR aM_0 dX12_undo_55 ?_
      refine lv_bipush (v := (20 : Int32)) C.1 C.2.1 dX12_undo_58 (by decide) ?_
      refine lv_iadd C.1 C.2.1 dX12_undo_60 ?_
      refine lv_iconst (v := (1 : Int32)) C.1 C.2.1 dX12_undo_61 (by decide) ?_
      refine lv_isub C.1 C.2.1 dX12_undo_62 ?_
      refine lv_bipush (v := (20 : Int32)) C.1 C.2.1 dX12_undo_63 (by decide) ?_
      refine lv_irem C.1 C.2.1 dX12_undo_65 (by decide) ?_
      obtain ⟨S1, e1, h⟩ := le1_ok h
      refine hr_putI C cf12 fM_583 hR aM_0 e1 dX12_undo_66 (fun H locs hR => ?_)
      refine lv_aload_n C.1 C.2.1 dX12_undo_69 rfl (lv_at hl 0 rfl) ?_
      refine lv_dup C.1 C.2.1 dX12_undo_70 rfl ?_
      refine ho_getI C cf12 fM_401 hR aM_0 dX12_undo_71 ?_
      refine lv_iconst (v := (1 : Int32)) C.1 C.2.1 dX12_undo_74 (by decide) ?_
      refine lv_isub C.1 C.2.1 dX12_undo_75 ?_
      obtain ⟨S2, e2, h⟩ := le1_ok h
      refine hr_putI C cf12 fM_401 hR aM_0 e2 dX12_undo_76 (fun H locs hR => ?_)
      refine lv_iconst (v := (1 : Int32)) C.1 C.2.1 dX12_undo_79 (by decide) ?_
      exact ho_zret C hR (Or.inr rfl) h dX12_undo_80
    · replace h := if_f h hc
      refine lv_aload_n C.1 C.2.1 dX12_undo_27 rfl (lv_at hl 0 rfl) ?_
      refine ho_getR (a' := 55) C cf12 fM_139 hR aM_0 rfl dX12_undo_28 ?_
      refine lv_iload_n C.1 C.2.1 dX12_undo_31 rfl (lv_at hl 1 rfl) ?_
      refine lv_aload_n C.1 C.2.1 dX12_undo_32 rfl (lv_at hl 0 rfl) ?_
      refine ho_getR (a' := 72) C cf12 fM_170 hR aM_0 rfl dX12_undo_33 ?_
      refine lv_bipush (v := (117 : Int32)) C.1 C.2.1 dX12_undo_36 (by decide) ?_
      refine lv_aload_n C.1 C.2.1 dX12_undo_38 rfl (lv_at hl 0 rfl) ?_
      refine ho_getI C cf12 fM_583 hR aM_0 dX12_undo_39 ?_
      refine lv_imul C.1 C.2.1 dX12_undo_42 ?_
      refine lv_iload_n C.1 C.2.1 dX12_undo_43 rfl (lv_at hl 1 rfl) ?_
      refine lv_iadd C.1 C.2.1 dX12_undo_44 ?_
      obtain ⟨v3, e3, hi3, h⟩ := ldI_ok h
      refine hr_ild C hR aM_72 hi3 e3 dX12_undo_45 ?_
      obtain ⟨S4, e4, hi4, h⟩ := stI_ok h
      refine hr_ist C hR aM_55 hi4 e4 dX12_undo_46 (fun H locs hR => ?_)
      obtain ⟨v5, e5, h⟩ := le1_ok h
      refine lv_iinc (v := v5) (lv' := [(1, .int v5), (0, .ref (E.2.1 0))]) C.1 C.2.1 dX12_undo_47 hl (k := 1) rfl (by rw [e5]; rfl) (by decide) rfl (fun ls hl => ?_)
      refine lv_goto (tgt := 21) C.1 C.2.1 dX12_undo_50 (by decide) ?_
      exact ih v5 S4 h _ _ _ hR (lv_sub hl [1, 0] rfl)
def f_X12_undo (S : Hp) : Option (Int32 × Hp) :=
  if (S.1 0 72) = 0 then ldI S 10 6 (4 : Int32) (fun v1 => stI S 10 6 (4 : Int32) (v1 + (1 : Int32)) (fun S2 => some ((0 : Int32), S2))) else f_X12_undo_21 5000 (0 : Int32) S
set_option maxHeartbeats 4000000 in
set_option maxRecDepth 100000 in
theorem c_X12_undo (l : Launch) (E : Ev) (S : Hp) (r : (Int32 × Hp)) (h : f_X12_undo S = some r) : ho_M l yM E yX12_undo cX12_undo 2 (some .boolean) 0 [.ref (E.2.1 0)] S (some (.int r.1), r.2) := by
  refine ho_in (by decide) (Nat.le_of_ble_eq_true rfl) ?_
  intro p e s m args below meth c C hR ls hl
  have C : ho_I p s m args meth c RX12 cX12_undo 2 (some .boolean) := C
  have hl : lv_has ls 2 [(0, .ref (E.2.1 0))] := hl
  unfold f_X12_undo at h
  refine lv_aload_n C.1 C.2.1 dX12_undo_0 rfl (lv_at hl 0 rfl) ?_
  refine ho_getI C cf12 fM_401 hR aM_0 dX12_undo_1 ?_
  refine lv_if_ne (tgt := 19) C.1 C.2.1 dX12_undo_4 (by decide) (fun hc => ?_) (fun hc => ?_)
  · replace h := if_f h hc
    refine lv_iconst (v := (0 : Int32)) C.1 C.2.1 dX12_undo_19 (by decide) ?_
    refine lv_istore_n (lv' := [(1, .int (0 : Int32)), (0, .ref (E.2.1 0))]) C.1 C.2.1 dX12_undo_20 rfl hl (by decide) rfl (fun ls hl => ?_)
    exact w_X12_undo_21 C 5000 (0 : Int32) S h _ _ _ hR (lv_sub hl [1, 0] rfl)
  · replace h := if_t h hc
    refine lv_aload_n C.1 C.2.1 dX12_undo_7 rfl (lv_at hl 0 rfl) ?_
    refine ho_getR (a' := 10) C cf12 fM_17 hR aM_0 rfl dX12_undo_8 ?_
    refine lv_iconst (v := (4 : Int32)) C.1 C.2.1 dX12_undo_11 (by decide) ?_
    refine lv_dup2_11 C.1 C.2.1 dX12_undo_12 rfl rfl ?_
    obtain ⟨v1, e1, hi1, h⟩ := ldI_ok h
    refine hr_ild C hR aM_10 hi1 e1 dX12_undo_13 ?_
    refine lv_iconst (v := (1 : Int32)) C.1 C.2.1 dX12_undo_14 (by decide) ?_
    refine lv_iadd C.1 C.2.1 dX12_undo_15 ?_
    obtain ⟨S2, e2, hi2, h⟩ := stI_ok h
    refine hr_ist C hR aM_10 hi2 e2 dX12_undo_16 (fun H locs hR => ?_)
    refine lv_iconst (v := (0 : Int32)) C.1 C.2.1 dX12_undo_17 (by decide) ?_
    exact ho_zret C hR (Or.inl rfl) h dX12_undo_18
theorem dX12_isRefused_0 : decode cX12_isRefused 0 = .ok (.aload_n 0, 1) := by decide +kernel
theorem dX12_isRefused_1 : decode cX12_isRefused 1 = .ok (.getfield 17, 3) := by decide +kernel
theorem dX12_isRefused_4 : decode cX12_isRefused 4 = .ok (.iconst 2, 1) := by decide +kernel
theorem dX12_isRefused_5 : decode cX12_isRefused 5 = .ok (.dup2, 1) := by decide +kernel
theorem dX12_isRefused_6 : decode cX12_isRefused 6 = .ok (.iaload, 1) := by decide +kernel
theorem dX12_isRefused_7 : decode cX12_isRefused 7 = .ok (.iconst 1, 1) := by decide +kernel
theorem dX12_isRefused_8 : decode cX12_isRefused 8 = .ok (.iadd, 1) := by decide +kernel
theorem dX12_isRefused_9 : decode cX12_isRefused 9 = .ok (.iastore, 1) := by decide +kernel
theorem dX12_isRefused_10 : decode cX12_isRefused 10 = .ok (.iconst 0, 1) := by decide +kernel
theorem dX12_isRefused_11 : decode cX12_isRefused 11 = .ok (.ireturn, 1) := by decide +kernel
def f_X12_isRefused (S : Hp) : Option (Int32 × Hp) :=
  ldI S 10 6 (2 : Int32) (fun v1 => stI S 10 6 (2 : Int32) (v1 + (1 : Int32)) (fun S2 => some ((0 : Int32), S2)))
set_option maxHeartbeats 4000000 in
set_option maxRecDepth 100000 in
theorem c_X12_isRefused (l : Launch) (E : Ev) (S : Hp) (r : (Int32 × Hp)) (h : f_X12_isRefused S = some r) : ho_M l yM E yX12_isRefused cX12_isRefused 1 (some .boolean) 0 [.ref (E.2.1 0)] S (some (.int r.1), r.2) := by
  refine ho_in (by decide) (Nat.le_of_ble_eq_true rfl) ?_
  intro p e s m args below meth c C hR ls hl
  have C : ho_I p s m args meth c RX12 cX12_isRefused 1 (some .boolean) := C
  have hl : lv_has ls 1 [(0, .ref (E.2.1 0))] := hl
  unfold f_X12_isRefused at h
  refine lv_aload_n C.1 C.2.1 dX12_isRefused_0 rfl (lv_at hl 0 rfl) ?_
  refine ho_getR (a' := 10) C cf12 fM_17 hR aM_0 rfl dX12_isRefused_1 ?_
  refine lv_iconst (v := (2 : Int32)) C.1 C.2.1 dX12_isRefused_4 (by decide) ?_
  refine lv_dup2_11 C.1 C.2.1 dX12_isRefused_5 rfl rfl ?_
  obtain ⟨v1, e1, hi1, h⟩ := ldI_ok h
  refine hr_ild C hR aM_10 hi1 e1 dX12_isRefused_6 ?_
  refine lv_iconst (v := (1 : Int32)) C.1 C.2.1 dX12_isRefused_7 (by decide) ?_
  refine lv_iadd C.1 C.2.1 dX12_isRefused_8 ?_
  obtain ⟨S2, e2, hi2, h⟩ := stI_ok h
  refine hr_ist C hR aM_10 hi2 e2 dX12_isRefused_9 (fun H locs hR => ?_)
  refine lv_iconst (v := (0 : Int32)) C.1 C.2.1 dX12_isRefused_10 (by decide) ?_
  exact ho_zret C hR (Or.inl rfl) h dX12_isRefused_11
theorem dX12_show_0 : decode cX12_show 0 = .ok (.aload_n 0, 1) := by decide +kernel
theorem dX12_show_1 : decode cX12_show 1 = .ok (.iconst 1, 1) := by decide +kernel
theorem dX12_show_2 : decode cX12_show 2 = .ok (.iconst 1, 1) := by decide +kernel
theorem dX12_show_3 : decode cX12_show 3 = .ok (.iconst 1, 1) := by decide +kernel
theorem dX12_show_4 : decode cX12_show 4 = .ok (.invokevirtual 551, 3) := by decide +kernel
theorem dX12_show_7 : decode cX12_show 7 = .ok (.ifCond .eq 11, 3) := by decide +kernel
theorem dX12_show_10 : decode cX12_show 10 = .ok (.aload_n 0, 1) := by decide +kernel
theorem dX12_show_11 : decode cX12_show 11 = .ok (.iload_n 1, 1) := by decide +kernel
theorem dX12_show_12 : decode cX12_show 12 = .ok (.invokevirtual 476, 3) := by decide +kernel
theorem dX12_show_15 : decode cX12_show 15 = .ok (.ifCond .ne 9, 3) := by decide +kernel
theorem dX12_show_18 : decode cX12_show 18 = .ok (.aload_n 0, 1) := by decide +kernel
theorem dX12_show_19 : decode cX12_show 19 = .ok (.iconst 2, 1) := by decide +kernel
theorem dX12_show_20 : decode cX12_show 20 = .ok (.invokevirtual 565, 3) := by decide +kernel
theorem dX12_show_23 : decode cX12_show 23 = .ok (.ireturn, 1) := by decide +kernel
theorem dX12_show_24 : decode cX12_show 24 = .ok (.aload_n 0, 1) := by decide +kernel
theorem dX12_show_25 : decode cX12_show 25 = .ok (.invokevirtual 586, 3) := by decide +kernel
theorem dX12_show_28 : decode cX12_show 28 = .ok (.aload_n 0, 1) := by decide +kernel
theorem dX12_show_29 : decode cX12_show 29 = .ok (.invokevirtual 458, 3) := by decide +kernel
theorem dX12_show_32 : decode cX12_show 32 = .ok (.aload_n 0, 1) := by decide +kernel
theorem dX12_show_33 : decode cX12_show 33 = .ok (.iload_n 1, 1) := by decide +kernel
theorem dX12_show_34 : decode cX12_show 34 = .ok (.invokevirtual 514, 3) := by decide +kernel
theorem dX12_show_37 : decode cX12_show 37 = .ok (.aload_n 0, 1) := by decide +kernel
theorem dX12_show_38 : decode cX12_show 38 = .ok (.getfield 491, 3) := by decide +kernel
theorem dX12_show_41 : decode cX12_show 41 = .ok (.ireturn, 1) := by decide +kernel
def f_X12_show_18 (S : Hp) : Option (Int32 × Hp) :=
  ob2 (f_X12_refuses (2 : Int32) S) (fun r1 S1 => some (r1, S1))
set_option maxHeartbeats 4000000 in
set_option maxRecDepth 100000 in
theorem w_X12_show_18 {p : Program} {l : Launch} {e : Env} {s : State} {m : MethodId} {args : Array Value} {below : List Frame} {meth : Method} {c : Code} {E : Ev} {S0 : Hp} {r : (Int32 × Hp)} (C : ho_I p s m args meth c RX12 cX12_show 2 (some .int)) :
    ∀ (S : Hp), f_X12_show_18 S = some r → ho_G p l e s m args below meth c yM E S0 8 2 (some (.int r.1), r.2) 18 [(0, .ref (E.2.1 0))] [] S := by
  intro S h H locs ls hR hl
  unfold f_X12_show_18 at h
  refine lv_aload_n C.1 C.2.1 dX12_show_18 rfl (lv_at hl 0 rfl) ?_
  refine lv_iconst (v := (2 : Int32)) C.1 C.2.1 dX12_show_19 (by decide) ?_
  obtain ⟨r1, S1, h1, h⟩ := ob2_ok h
  refine hr_Vi (v := r1) (S' := S1) (As := [.int (2 : Int32)]) (rest := []) C cf12 (c_X12_refuses l E (2 : Int32) _ _ h1) yv_X12_refuses lk_RX12_565 rfl aM_0 rfl rfl hl.1 (Nat.le_of_ble_eq_true rfl) (by decide) (by decide) hR (ho_A hR) dX12_show_20 (fun H locs hR => ?_)
  exact ho_iret C hR h dX12_show_23
def f_X12_show (x1 : Int32) (S : Hp) : Option (Int32 × Hp) :=
  ob2 (f_X12_isAhead (1 : Int32) (1 : Int32) (1 : Int32) S) (fun r1 S1 => if r1 = 0 then f_X12_show_18 S1 else ob2 (f_X12_canShow x1 S1) (fun r2 S2 => if r2 = 0 then f_X12_show_18 S2 else ob (f_X12_keeps S2) (fun S3 => ob (f_X12_yieldsCome S3) (fun S4 => ob (f_X12_yearEnds x1 S4) (fun S5 => some ((S5.1 0 64), S5))))))
set_option maxHeartbeats 4000000 in
set_option maxRecDepth 100000 in
theorem c_X12_show (l : Launch) (E : Ev) (x1 : Int32) (S : Hp) (r : (Int32 × Hp)) (h : f_X12_show x1 S = some r) : ho_M l yM E yX12_show cX12_show 2 (some .int) 8 [.ref (E.2.1 0), .int x1] S (some (.int r.1), r.2) := by
  refine ho_in (by decide) (Nat.le_of_ble_eq_true rfl) ?_
  intro p e s m args below meth c C hR ls hl
  have C : ho_I p s m args meth c RX12 cX12_show 2 (some .int) := C
  have hl : lv_has ls 2 [(0, .ref (E.2.1 0)), (1, .int x1)] := hl
  unfold f_X12_show at h
  refine lv_aload_n C.1 C.2.1 dX12_show_0 rfl (lv_at hl 0 rfl) ?_
  refine lv_iconst (v := (1 : Int32)) C.1 C.2.1 dX12_show_1 (by decide) ?_
  refine lv_iconst (v := (1 : Int32)) C.1 C.2.1 dX12_show_2 (by decide) ?_
  refine lv_iconst (v := (1 : Int32)) C.1 C.2.1 dX12_show_3 (by decide) ?_
  obtain ⟨r1, S1, h1, h⟩ := ob2_ok h
  refine hr_Vi (v := r1) (S' := S1) (As := [.int (1 : Int32), .int (1 : Int32), .int (1 : Int32)]) (rest := []) C cf12 (c_X12_isAhead l E (1 : Int32) (1 : Int32) (1 : Int32) _ _ h1) yv_X12_isAhead lk_RX12_551 rfl aM_0 rfl rfl hl.1 (Nat.le_of_ble_eq_true rfl) (by decide) (by decide) hR (ho_A hR) dX12_show_4 (fun H locs hR => ?_)
  refine lv_if_eq (tgt := 18) C.1 C.2.1 dX12_show_7 (by decide) (fun hc => ?_) (fun hc => ?_)
  · replace h := if_t h hc
    exact w_X12_show_18 C S1 h _ _ _ hR (lv_sub hl [0] rfl)
  · replace h := if_f h hc
    refine lv_aload_n C.1 C.2.1 dX12_show_10 rfl (lv_at hl 0 rfl) ?_
    refine lv_iload_n C.1 C.2.1 dX12_show_11 rfl (lv_at hl 1 rfl) ?_
    obtain ⟨r2, S2, h2, h⟩ := ob2_ok h
    refine hr_Vi (v := r2) (S' := S2) (As := [.int x1]) (rest := []) C cf12 (c_X12_canShow l E x1 _ _ h2) yv_X12_canShow lk_RX12_476 rfl aM_0 rfl rfl hl.1 (Nat.le_of_ble_eq_true rfl) (by decide) (by decide) hR (ho_A hR) dX12_show_12 (fun H locs hR => ?_)
    refine lv_if_ne (tgt := 24) C.1 C.2.1 dX12_show_15 (by decide) (fun hc => ?_) (fun hc => ?_)
    · replace h := if_f h hc
      refine lv_aload_n C.1 C.2.1 dX12_show_24 rfl (lv_at hl 0 rfl) ?_
      obtain ⟨S3, h3, h⟩ := ob_ok h
      refine hr_Vv (S' := S3) (As := []) (rest := []) C cf12 (c_X12_keeps l E _ _ h3) yv_X12_keeps lk_RX12_586 rfl aM_0 rfl rfl hl.1 (Nat.le_of_ble_eq_true rfl) (by decide) (by decide) hR (ho_A hR) dX12_show_25 (fun H locs hR => ?_)
      refine lv_aload_n C.1 C.2.1 dX12_show_28 rfl (lv_at hl 0 rfl) ?_
      obtain ⟨S4, h4, h⟩ := ob_ok h
      refine hr_Vv (S' := S4) (As := []) (rest := []) C cf12 (c_X12_yieldsCome l E _ _ h4) yv_X12_yieldsCome lk_RX12_458 rfl aM_0 rfl rfl hl.1 (Nat.le_of_ble_eq_true rfl) (by decide) (by decide) hR (ho_A hR) dX12_show_29 (fun H locs hR => ?_)
      refine lv_aload_n C.1 C.2.1 dX12_show_32 rfl (lv_at hl 0 rfl) ?_
      refine lv_iload_n C.1 C.2.1 dX12_show_33 rfl (lv_at hl 1 rfl) ?_
      obtain ⟨S5, h5, h⟩ := ob_ok h
      refine hr_Vv (S' := S5) (As := [.int x1]) (rest := []) C cf12 (c_X12_yearEnds l E x1 _ _ h5) yv_X12_yearEnds lk_RX12_514 rfl aM_0 rfl rfl hl.1 (Nat.le_of_ble_eq_true rfl) (by decide) (by decide) hR (ho_A hR) dX12_show_34 (fun H locs hR => ?_)
      refine lv_aload_n C.1 C.2.1 dX12_show_37 rfl (lv_at hl 0 rfl) ?_
      refine ho_getI C cf12 fM_491 hR aM_0 dX12_show_38 ?_
      exact ho_iret C hR h dX12_show_41
    · replace h := if_t h hc
      exact w_X12_show_18 C S2 h _ _ _ hR (lv_sub hl [0] rfl)
theorem dX12_sit_0 : decode cX12_sit 0 = .ok (.aload_n 0, 1) := by decide +kernel
theorem dX12_sit_1 : decode cX12_sit 1 = .ok (.iload_n 1, 1) := by decide +kernel
theorem dX12_sit_2 : decode cX12_sit 2 = .ok (.invokevirtual 539, 3) := by decide +kernel
theorem dX12_sit_5 : decode cX12_sit 5 = .ok (.ifCond .eq 24, 3) := by decide +kernel
theorem dX12_sit_8 : decode cX12_sit 8 = .ok (.iload_n 2, 1) := by decide +kernel
theorem dX12_sit_9 : decode cX12_sit 9 = .ok (.i2l, 1) := by decide +kernel
theorem dX12_sit_10 : decode cX12_sit 10 = .ok (.lconst 0, 1) := by decide +kernel
theorem dX12_sit_11 : decode cX12_sit 11 = .ok (.ldc2_w 589, 3) := by decide +kernel
theorem dX12_sit_14 : decode cX12_sit 14 = .ok (.invokestatic 304, 3) := by decide +kernel
theorem dX12_sit_17 : decode cX12_sit 17 = .ok (.ifCond .eq 12, 3) := by decide +kernel
theorem dX12_sit_20 : decode cX12_sit 20 = .ok (.aload_n 0, 1) := by decide +kernel
theorem dX12_sit_21 : decode cX12_sit 21 = .ok (.iload_n 1, 1) := by decide +kernel
theorem dX12_sit_22 : decode cX12_sit 22 = .ok (.invokevirtual 441, 3) := by decide +kernel
theorem dX12_sit_25 : decode cX12_sit 25 = .ok (.iload_n 2, 1) := by decide +kernel
theorem dX12_sit_26 : decode cX12_sit 26 = .ok (.if_icmp .ne 8, 3) := by decide +kernel
theorem dX12_sit_29 : decode cX12_sit 29 = .ok (.aload_n 0, 1) := by decide +kernel
theorem dX12_sit_30 : decode cX12_sit 30 = .ok (.invokevirtual 591, 3) := by decide +kernel
theorem dX12_sit_33 : decode cX12_sit 33 = .ok (.ireturn, 1) := by decide +kernel
theorem dX12_sit_34 : decode cX12_sit 34 = .ok (.aload_n 0, 1) := by decide +kernel
theorem dX12_sit_35 : decode cX12_sit 35 = .ok (.invokevirtual 586, 3) := by decide +kernel
theorem dX12_sit_38 : decode cX12_sit 38 = .ok (.aload_n 0, 1) := by decide +kernel
theorem dX12_sit_39 : decode cX12_sit 39 = .ok (.getfield 139, 3) := by decide +kernel
theorem dX12_sit_42 : decode cX12_sit 42 = .ok (.bipush 21, 2) := by decide +kernel
theorem dX12_sit_44 : decode cX12_sit 44 = .ok (.iload_n 1, 1) := by decide +kernel
theorem dX12_sit_45 : decode cX12_sit 45 = .ok (.iadd, 1) := by decide +kernel
theorem dX12_sit_46 : decode cX12_sit 46 = .ok (.iload_n 2, 1) := by decide +kernel
theorem dX12_sit_47 : decode cX12_sit 47 = .ok (.iastore, 1) := by decide +kernel
theorem dX12_sit_48 : decode cX12_sit 48 = .ok (.iconst 1, 1) := by decide +kernel
theorem dX12_sit_49 : decode cX12_sit 49 = .ok (.ireturn, 1) := by decide +kernel
def f_X12_sit_29 (S : Hp) : Option (Int32 × Hp) :=
  ob2 (f_X12_isRefused S) (fun r1 S1 => tr r1 (some (r1, S1)))
set_option maxHeartbeats 4000000 in
set_option maxRecDepth 100000 in
theorem w_X12_sit_29 {p : Program} {l : Launch} {e : Env} {s : State} {m : MethodId} {args : Array Value} {below : List Frame} {meth : Method} {c : Code} {E : Ev} {S0 : Hp} {r : (Int32 × Hp)} (C : ho_I p s m args meth c RX12 cX12_sit 3 (some .boolean)) :
    ∀ (S : Hp), f_X12_sit_29 S = some r → ho_G p l e s m args below meth c yM E S0 2 3 (some (.int r.1), r.2) 29 [(0, .ref (E.2.1 0))] [] S := by
  intro S h H locs ls hR hl
  unfold f_X12_sit_29 at h
  refine lv_aload_n C.1 C.2.1 dX12_sit_29 rfl (lv_at hl 0 rfl) ?_
  obtain ⟨r1, S1, h1, h⟩ := ob2_ok h
  refine hr_Vi (v := r1) (S' := S1) (As := []) (rest := []) C cf12 (c_X12_isRefused l E _ _ h1) yv_X12_isRefused lk_RX12_591 rfl aM_0 rfl rfl hl.1 (Nat.le_of_ble_eq_true rfl) (by decide) (by decide) hR (ho_A hR) dX12_sit_30 (fun H locs hR => ?_)
  obtain ⟨hz, h⟩ := tr_ok h
  exact ho_zret C hR hz h dX12_sit_33
def f_X12_sit (x1 : Int32) (x2 : Int32) (S : Hp) : Option (Int32 × Hp) :=
  ob2 (f_X12_isWatcher x1 S) (fun r1 S1 => if r1 = 0 then f_X12_sit_29 S1 else ob2 (f_X12_isIn (x2.toInt64) (0 : Int64) (9 : Int64) S1) (fun r2 S2 => if r2 = 0 then f_X12_sit_29 S2 else ob2 (f_X12_seatOf x1 S2) (fun r3 S3 => if r3 = x2 then f_X12_sit_29 S3 else ob (f_X12_keeps S3) (fun S4 => stI S4 55 117 ((21 : Int32) + x1) x2 (fun S5 => some ((1 : Int32), S5))))))
set_option maxHeartbeats 4000000 in
set_option maxRecDepth 100000 in
theorem c_X12_sit (l : Launch) (E : Ev) (x1 : Int32) (x2 : Int32) (S : Hp) (r : (Int32 × Hp)) (h : f_X12_sit x1 x2 S = some r) : ho_M l yM E yX12_sit cX12_sit 3 (some .boolean) 2 [.ref (E.2.1 0), .int x1, .int x2] S (some (.int r.1), r.2) := by
  refine ho_in (by decide) (Nat.le_of_ble_eq_true rfl) ?_
  intro p e s m args below meth c C hR ls hl
  have C : ho_I p s m args meth c RX12 cX12_sit 3 (some .boolean) := C
  have hl : lv_has ls 3 [(0, .ref (E.2.1 0)), (1, .int x1), (2, .int x2)] := hl
  unfold f_X12_sit at h
  refine lv_aload_n C.1 C.2.1 dX12_sit_0 rfl (lv_at hl 0 rfl) ?_
  refine lv_iload_n C.1 C.2.1 dX12_sit_1 rfl (lv_at hl 1 rfl) ?_
  obtain ⟨r1, S1, h1, h⟩ := ob2_ok h
  refine hr_Vi (v := r1) (S' := S1) (As := [.int x1]) (rest := []) C cf12 (c_X12_isWatcher l E x1 _ _ h1) yv_X12_isWatcher lk_RX12_539 rfl aM_0 rfl rfl hl.1 (Nat.le_of_ble_eq_true rfl) (by decide) (by decide) hR (ho_A hR) dX12_sit_2 (fun H locs hR => ?_)
  refine lv_if_eq (tgt := 29) C.1 C.2.1 dX12_sit_5 (by decide) (fun hc => ?_) (fun hc => ?_)
  · replace h := if_t h hc
    exact w_X12_sit_29 C S1 h _ _ _ hR (lv_sub hl [0] rfl)
  · replace h := if_f h hc
    refine lv_iload_n C.1 C.2.1 dX12_sit_8 rfl (lv_at hl 2 rfl) ?_
    refine lv_i2l (v := (x2.toInt64)) C.1 C.2.1 dX12_sit_9 rfl ?_
    refine lv_lconst (v := (0 : Int64)) C.1 C.2.1 dX12_sit_10 (by decide) ?_
    refine lv_ldc2 (v := (9 : Int64)) C.1 C.2.1 C.2.2.2.2.1 (C.2.2.2.2.2.1 _ kc_RX12_589) dX12_sit_11 ?_
    obtain ⟨r2, S2, h2, h⟩ := ob2_ok h
    refine hr_Si (v := r2) (S' := S2) (As := [.long (x2.toInt64), .long (0 : Int64), .long (9 : Int64)]) (rest := []) C (c_X12_isIn l E (x2.toInt64) (0 : Int64) (9 : Int64) _ _ h2) ys_X12_isIn lk_RX12_304 rfl rfl hl.1 (Nat.le_of_ble_eq_true rfl) (by decide) (by decide) hR (ho_A hR) dX12_sit_14 (fun H locs hR => ?_)
    refine lv_if_eq (tgt := 29) C.1 C.2.1 dX12_sit_17 (by decide) (fun hc => ?_) (fun hc => ?_)
    · replace h := if_t h hc
      exact w_X12_sit_29 C S2 h _ _ _ hR (lv_sub hl [0] rfl)
    · replace h := if_f h hc
      refine lv_aload_n C.1 C.2.1 dX12_sit_20 rfl (lv_at hl 0 rfl) ?_
      refine lv_iload_n C.1 C.2.1 dX12_sit_21 rfl (lv_at hl 1 rfl) ?_
      obtain ⟨r3, S3, h3, h⟩ := ob2_ok h
      refine hr_Vi (v := r3) (S' := S3) (As := [.int x1]) (rest := []) C cf12 (c_X12_seatOf l E x1 _ _ h3) yv_X12_seatOf lk_RX12_441 rfl aM_0 rfl rfl hl.1 (Nat.le_of_ble_eq_true rfl) (by decide) (by decide) hR (ho_A hR) dX12_sit_22 (fun H locs hR => ?_)
      refine lv_iload_n C.1 C.2.1 dX12_sit_25 rfl (lv_at hl 2 rfl) ?_
      refine lv_icmp_ne (tgt := 34) C.1 C.2.1 dX12_sit_26 (by decide) (fun hc => ?_) (fun hc => ?_)
      · replace h := if_f h hc
        refine lv_aload_n C.1 C.2.1 dX12_sit_34 rfl (lv_at hl 0 rfl) ?_
        obtain ⟨S4, h4, h⟩ := ob_ok h
        refine hr_Vv (S' := S4) (As := []) (rest := []) C cf12 (c_X12_keeps l E _ _ h4) yv_X12_keeps lk_RX12_586 rfl aM_0 rfl rfl hl.1 (Nat.le_of_ble_eq_true rfl) (by decide) (by decide) hR (ho_A hR) dX12_sit_35 (fun H locs hR => ?_)
        refine lv_aload_n C.1 C.2.1 dX12_sit_38 rfl (lv_at hl 0 rfl) ?_
        refine ho_getR (a' := 55) C cf12 fM_139 hR aM_0 rfl dX12_sit_39 ?_
        refine lv_bipush (v := (21 : Int32)) C.1 C.2.1 dX12_sit_42 (by decide) ?_
        refine lv_iload_n C.1 C.2.1 dX12_sit_44 rfl (lv_at hl 1 rfl) ?_
        refine lv_iadd C.1 C.2.1 dX12_sit_45 ?_
        refine lv_iload_n C.1 C.2.1 dX12_sit_46 rfl (lv_at hl 2 rfl) ?_
        obtain ⟨S5, e5, hi5, h⟩ := stI_ok h
        refine hr_ist C hR aM_55 hi5 e5 dX12_sit_47 (fun H locs hR => ?_)
        refine lv_iconst (v := (1 : Int32)) C.1 C.2.1 dX12_sit_48 (by decide) ?_
        exact ho_zret C hR (Or.inr rfl) h dX12_sit_49
      · replace h := if_t h hc
        exact w_X12_sit_29 C S3 h _ _ _ hR (lv_sub hl [0] rfl)
theorem dX12_move_0 : decode cX12_move 0 = .ok (.aload_n 0, 1) := by decide +kernel
theorem dX12_move_1 : decode cX12_move 1 = .ok (.iload_n 1, 1) := by decide +kernel
theorem dX12_move_2 : decode cX12_move 2 = .ok (.invokevirtual 530, 3) := by decide +kernel
theorem dX12_move_5 : decode cX12_move 5 = .ok (.ifCond .eq 56, 3) := by decide +kernel
theorem dX12_move_8 : decode cX12_move 8 = .ok (.aload_n 0, 1) := by decide +kernel
theorem dX12_move_9 : decode cX12_move 9 = .ok (.iload_n 2, 1) := by decide +kernel
theorem dX12_move_10 : decode cX12_move 10 = .ok (.invokevirtual 530, 3) := by decide +kernel
theorem dX12_move_13 : decode cX12_move 13 = .ok (.ifCond .eq 48, 3) := by decide +kernel
theorem dX12_move_16 : decode cX12_move 16 = .ok (.iload_n 1, 1) := by decide +kernel
theorem dX12_move_17 : decode cX12_move 17 = .ok (.iload_n 2, 1) := by decide +kernel
theorem dX12_move_18 : decode cX12_move 18 = .ok (.if_icmp .eq 43, 3) := by decide +kernel
theorem dX12_move_21 : decode cX12_move 21 = .ok (.iload_n 3, 1) := by decide +kernel
theorem dX12_move_22 : decode cX12_move 22 = .ok (.i2l, 1) := by decide +kernel
theorem dX12_move_23 : decode cX12_move 23 = .ok (.lconst 1, 1) := by decide +kernel
theorem dX12_move_24 : decode cX12_move 24 = .ok (.ldc2_w 594, 3) := by decide +kernel
theorem dX12_move_27 : decode cX12_move 27 = .ok (.invokestatic 304, 3) := by decide +kernel
theorem dX12_move_30 : decode cX12_move 30 = .ok (.ifCond .eq 31, 3) := by decide +kernel
theorem dX12_move_33 : decode cX12_move 33 = .ok (.aload_n 0, 1) := by decide +kernel
theorem dX12_move_34 : decode cX12_move 34 = .ok (.getfield 139, 3) := by decide +kernel
theorem dX12_move_37 : decode cX12_move 37 = .ok (.iconst 3, 1) := by decide +kernel
theorem dX12_move_38 : decode cX12_move 38 = .ok (.iload_n 1, 1) := by decide +kernel
theorem dX12_move_39 : decode cX12_move 39 = .ok (.iadd, 1) := by decide +kernel
theorem dX12_move_40 : decode cX12_move 40 = .ok (.iaload, 1) := by decide +kernel
theorem dX12_move_41 : decode cX12_move 41 = .ok (.iload_n 3, 1) := by decide +kernel
theorem dX12_move_42 : decode cX12_move 42 = .ok (.if_icmp .lt 19, 3) := by decide +kernel
theorem dX12_move_45 : decode cX12_move 45 = .ok (.aload_n 0, 1) := by decide +kernel
theorem dX12_move_46 : decode cX12_move 46 = .ok (.getfield 139, 3) := by decide +kernel
theorem dX12_move_49 : decode cX12_move 49 = .ok (.iconst 3, 1) := by decide +kernel
theorem dX12_move_50 : decode cX12_move 50 = .ok (.iload_n 2, 1) := by decide +kernel
theorem dX12_move_51 : decode cX12_move 51 = .ok (.iadd, 1) := by decide +kernel
theorem dX12_move_52 : decode cX12_move 52 = .ok (.iaload, 1) := by decide +kernel
theorem dX12_move_53 : decode cX12_move 53 = .ok (.iload_n 3, 1) := by decide +kernel
theorem dX12_move_54 : decode cX12_move 54 = .ok (.iadd, 1) := by decide +kernel
theorem dX12_move_55 : decode cX12_move 55 = .ok (.sipush 9999, 3) := by decide +kernel
theorem dX12_move_58 : decode cX12_move 58 = .ok (.if_icmp .le 8, 3) := by decide +kernel
theorem dX12_move_61 : decode cX12_move 61 = .ok (.aload_n 0, 1) := by decide +kernel
theorem dX12_move_62 : decode cX12_move 62 = .ok (.invokevirtual 591, 3) := by decide +kernel
theorem dX12_move_65 : decode cX12_move 65 = .ok (.ireturn, 1) := by decide +kernel
theorem dX12_move_66 : decode cX12_move 66 = .ok (.aload_n 0, 1) := by decide +kernel
theorem dX12_move_67 : decode cX12_move 67 = .ok (.invokevirtual 586, 3) := by decide +kernel
theorem dX12_move_70 : decode cX12_move 70 = .ok (.aload_n 0, 1) := by decide +kernel
theorem dX12_move_71 : decode cX12_move 71 = .ok (.getfield 139, 3) := by decide +kernel
theorem dX12_move_74 : decode cX12_move 74 = .ok (.iconst 3, 1) := by decide +kernel
theorem dX12_move_75 : decode cX12_move 75 = .ok (.iload_n 1, 1) := by decide +kernel
theorem dX12_move_76 : decode cX12_move 76 = .ok (.iadd, 1) := by decide +kernel
theorem dX12_move_77 : decode cX12_move 77 = .ok (.dup2, 1) := by decide +kernel
theorem dX12_move_78 : decode cX12_move 78 = .ok (.iaload, 1) := by decide +kernel
theorem dX12_move_79 : decode cX12_move 79 = .ok (.iload_n 3, 1) := by decide +kernel
theorem dX12_move_80 : decode cX12_move 80 = .ok (.isub, 1) := by decide +kernel
theorem dX12_move_81 : decode cX12_move 81 = .ok (.iastore, 1) := by decide +kernel
theorem dX12_move_82 : decode cX12_move 82 = .ok (.aload_n 0, 1) := by decide +kernel
theorem dX12_move_83 : decode cX12_move 83 = .ok (.getfield 139, 3) := by decide +kernel
theorem dX12_move_86 : decode cX12_move 86 = .ok (.iconst 3, 1) := by decide +kernel
theorem dX12_move_87 : decode cX12_move 87 = .ok (.iload_n 2, 1) := by decide +kernel
theorem dX12_move_88 : decode cX12_move 88 = .ok (.iadd, 1) := by decide +kernel
theorem dX12_move_89 : decode cX12_move 89 = .ok (.dup2, 1) := by decide +kernel
theorem dX12_move_90 : decode cX12_move 90 = .ok (.iaload, 1) := by decide +kernel
theorem dX12_move_91 : decode cX12_move 91 = .ok (.iload_n 3, 1) := by decide +kernel
theorem dX12_move_92 : decode cX12_move 92 = .ok (.iadd, 1) := by decide +kernel
theorem dX12_move_93 : decode cX12_move 93 = .ok (.iastore, 1) := by decide +kernel
theorem dX12_move_94 : decode cX12_move 94 = .ok (.iconst 1, 1) := by decide +kernel
theorem dX12_move_95 : decode cX12_move 95 = .ok (.ireturn, 1) := by decide +kernel
def f_X12_move_61 (S : Hp) : Option (Int32 × Hp) :=
  ob2 (f_X12_isRefused S) (fun r1 S1 => tr r1 (some (r1, S1)))
set_option maxHeartbeats 4000000 in
set_option maxRecDepth 100000 in
theorem w_X12_move_61 {p : Program} {l : Launch} {e : Env} {s : State} {m : MethodId} {args : Array Value} {below : List Frame} {meth : Method} {c : Code} {E : Ev} {S0 : Hp} {r : (Int32 × Hp)} (C : ho_I p s m args meth c RX12 cX12_move 4 (some .boolean)) :
    ∀ (S : Hp), f_X12_move_61 S = some r → ho_G p l e s m args below meth c yM E S0 2 4 (some (.int r.1), r.2) 61 [(0, .ref (E.2.1 0))] [] S := by
  intro S h H locs ls hR hl
  unfold f_X12_move_61 at h
  refine lv_aload_n C.1 C.2.1 dX12_move_61 rfl (lv_at hl 0 rfl) ?_
  obtain ⟨r1, S1, h1, h⟩ := ob2_ok h
  refine hr_Vi (v := r1) (S' := S1) (As := []) (rest := []) C cf12 (c_X12_isRefused l E _ _ h1) yv_X12_isRefused lk_RX12_591 rfl aM_0 rfl rfl hl.1 (Nat.le_of_ble_eq_true rfl) (by decide) (by decide) hR (ho_A hR) dX12_move_62 (fun H locs hR => ?_)
  obtain ⟨hz, h⟩ := tr_ok h
  exact ho_zret C hR hz h dX12_move_65
def f_X12_move (x1 : Int32) (x2 : Int32) (x3 : Int32) (S : Hp) : Option (Int32 × Hp) :=
  ob2 (f_X12_isProvince x1 S) (fun r1 S1 => if r1 = 0 then f_X12_move_61 S1 else ob2 (f_X12_isProvince x2 S1) (fun r2 S2 => if r2 = 0 then f_X12_move_61 S2 else if x1 = x2 then f_X12_move_61 S2 else ob2 (f_X12_isIn (x3.toInt64) (1 : Int64) (9999 : Int64) S2) (fun r3 S3 => if r3 = 0 then f_X12_move_61 S3 else ldI S3 55 117 ((3 : Int32) + x1) (fun v4 => if v4 < x3 then f_X12_move_61 S3 else ldI S3 55 117 ((3 : Int32) + x2) (fun v5 => if (v5 + x3) ≤ (9999 : Int32) then ob (f_X12_keeps S3) (fun S6 => ldI S6 55 117 ((3 : Int32) + x1) (fun v7 => stI S6 55 117 ((3 : Int32) + x1) (v7 - x3) (fun S8 => ldI S8 55 117 ((3 : Int32) + x2) (fun v9 => stI S8 55 117 ((3 : Int32) + x2) (v9 + x3) (fun S10 => some ((1 : Int32), S10)))))) else f_X12_move_61 S3)))))
set_option maxHeartbeats 4000000 in
set_option maxRecDepth 100000 in
theorem c_X12_move (l : Launch) (E : Ev) (x1 : Int32) (x2 : Int32) (x3 : Int32) (S : Hp) (r : (Int32 × Hp)) (h : f_X12_move x1 x2 x3 S = some r) : ho_M l yM E yX12_move cX12_move 4 (some .boolean) 2 [.ref (E.2.1 0), .int x1, .int x2, .int x3] S (some (.int r.1), r.2) := by
  refine ho_in (by decide) (Nat.le_of_ble_eq_true rfl) ?_
  intro p e s m args below meth c C hR ls hl
  have C : ho_I p s m args meth c RX12 cX12_move 4 (some .boolean) := C
  have hl : lv_has ls 4 [(0, .ref (E.2.1 0)), (1, .int x1), (2, .int x2), (3, .int x3)] := hl
  unfold f_X12_move at h
  refine lv_aload_n C.1 C.2.1 dX12_move_0 rfl (lv_at hl 0 rfl) ?_
  refine lv_iload_n C.1 C.2.1 dX12_move_1 rfl (lv_at hl 1 rfl) ?_
  obtain ⟨r1, S1, h1, h⟩ := ob2_ok h
  refine hr_Vi (v := r1) (S' := S1) (As := [.int x1]) (rest := []) C cf12 (c_X12_isProvince l E x1 _ _ h1) yv_X12_isProvince lk_RX12_530 rfl aM_0 rfl rfl hl.1 (Nat.le_of_ble_eq_true rfl) (by decide) (by decide) hR (ho_A hR) dX12_move_2 (fun H locs hR => ?_)
  refine lv_if_eq (tgt := 61) C.1 C.2.1 dX12_move_5 (by decide) (fun hc => ?_) (fun hc => ?_)
  · replace h := if_t h hc
    exact w_X12_move_61 C S1 h _ _ _ hR (lv_sub hl [0] rfl)
  · replace h := if_f h hc
    refine lv_aload_n C.1 C.2.1 dX12_move_8 rfl (lv_at hl 0 rfl) ?_
    refine lv_iload_n C.1 C.2.1 dX12_move_9 rfl (lv_at hl 2 rfl) ?_
    obtain ⟨r2, S2, h2, h⟩ := ob2_ok h
    refine hr_Vi (v := r2) (S' := S2) (As := [.int x2]) (rest := []) C cf12 (c_X12_isProvince l E x2 _ _ h2) yv_X12_isProvince lk_RX12_530 rfl aM_0 rfl rfl hl.1 (Nat.le_of_ble_eq_true rfl) (by decide) (by decide) hR (ho_A hR) dX12_move_10 (fun H locs hR => ?_)
    refine lv_if_eq (tgt := 61) C.1 C.2.1 dX12_move_13 (by decide) (fun hc => ?_) (fun hc => ?_)
    · replace h := if_t h hc
      exact w_X12_move_61 C S2 h _ _ _ hR (lv_sub hl [0] rfl)
    · replace h := if_f h hc
      refine lv_iload_n C.1 C.2.1 dX12_move_16 rfl (lv_at hl 1 rfl) ?_
      refine lv_iload_n C.1 C.2.1 dX12_move_17 rfl (lv_at hl 2 rfl) ?_
      refine lv_icmp_eq (tgt := 61) C.1 C.2.1 dX12_move_18 (by decide) (fun hc => ?_) (fun hc => ?_)
      · replace h := if_t h hc
        exact w_X12_move_61 C S2 h _ _ _ hR (lv_sub hl [0] rfl)
      · replace h := if_f h hc
        refine lv_iload_n C.1 C.2.1 dX12_move_21 rfl (lv_at hl 3 rfl) ?_
        refine lv_i2l (v := (x3.toInt64)) C.1 C.2.1 dX12_move_22 rfl ?_
        refine lv_lconst (v := (1 : Int64)) C.1 C.2.1 dX12_move_23 (by decide) ?_
        refine lv_ldc2 (v := (9999 : Int64)) C.1 C.2.1 C.2.2.2.2.1 (C.2.2.2.2.2.1 _ kc_RX12_594) dX12_move_24 ?_
        obtain ⟨r3, S3, h3, h⟩ := ob2_ok h
        refine hr_Si (v := r3) (S' := S3) (As := [.long (x3.toInt64), .long (1 : Int64), .long (9999 : Int64)]) (rest := []) C (c_X12_isIn l E (x3.toInt64) (1 : Int64) (9999 : Int64) _ _ h3) ys_X12_isIn lk_RX12_304 rfl rfl hl.1 (Nat.le_of_ble_eq_true rfl) (by decide) (by decide) hR (ho_A hR) dX12_move_27 (fun H locs hR => ?_)
        refine lv_if_eq (tgt := 61) C.1 C.2.1 dX12_move_30 (by decide) (fun hc => ?_) (fun hc => ?_)
        · replace h := if_t h hc
          exact w_X12_move_61 C S3 h _ _ _ hR (lv_sub hl [0] rfl)
        · replace h := if_f h hc
          refine lv_aload_n C.1 C.2.1 dX12_move_33 rfl (lv_at hl 0 rfl) ?_
          refine ho_getR (a' := 55) C cf12 fM_139 hR aM_0 rfl dX12_move_34 ?_
          refine lv_iconst (v := (3 : Int32)) C.1 C.2.1 dX12_move_37 (by decide) ?_
          refine lv_iload_n C.1 C.2.1 dX12_move_38 rfl (lv_at hl 1 rfl) ?_
          refine lv_iadd C.1 C.2.1 dX12_move_39 ?_
          obtain ⟨v4, e4, hi4, h⟩ := ldI_ok h
          refine hr_ild C hR aM_55 hi4 e4 dX12_move_40 ?_
          refine lv_iload_n C.1 C.2.1 dX12_move_41 rfl (lv_at hl 3 rfl) ?_
          refine lv_icmp_lt (tgt := 61) C.1 C.2.1 dX12_move_42 (by decide) (fun hc => ?_) (fun hc => ?_)
          · replace h := if_t h hc
            exact w_X12_move_61 C S3 h _ _ _ hR (lv_sub hl [0] rfl)
          · replace h := if_f h hc
            refine lv_aload_n C.1 C.2.1 dX12_move_45 rfl (lv_at hl 0 rfl) ?_
            refine ho_getR (a' := 55) C cf12 fM_139 hR aM_0 rfl dX12_move_46 ?_
            refine lv_iconst (v := (3 : Int32)) C.1 C.2.1 dX12_move_49 (by decide) ?_
            refine lv_iload_n C.1 C.2.1 dX12_move_50 rfl (lv_at hl 2 rfl) ?_
            refine lv_iadd C.1 C.2.1 dX12_move_51 ?_
            obtain ⟨v5, e5, hi5, h⟩ := ldI_ok h
            refine hr_ild C hR aM_55 hi5 e5 dX12_move_52 ?_
            refine lv_iload_n C.1 C.2.1 dX12_move_53 rfl (lv_at hl 3 rfl) ?_
            refine lv_iadd C.1 C.2.1 dX12_move_54 ?_
            refine lv_sipush (v := (9999 : Int32)) C.1 C.2.1 dX12_move_55 (by decide) ?_
            refine lv_icmp_le (tgt := 66) C.1 C.2.1 dX12_move_58 (by decide) (fun hc => ?_) (fun hc => ?_)
            · replace h := if_t h hc
              refine lv_aload_n C.1 C.2.1 dX12_move_66 rfl (lv_at hl 0 rfl) ?_
              obtain ⟨S6, h6, h⟩ := ob_ok h
              refine hr_Vv (S' := S6) (As := []) (rest := []) C cf12 (c_X12_keeps l E _ _ h6) yv_X12_keeps lk_RX12_586 rfl aM_0 rfl rfl hl.1 (Nat.le_of_ble_eq_true rfl) (by decide) (by decide) hR (ho_A hR) dX12_move_67 (fun H locs hR => ?_)
              refine lv_aload_n C.1 C.2.1 dX12_move_70 rfl (lv_at hl 0 rfl) ?_
              refine ho_getR (a' := 55) C cf12 fM_139 hR aM_0 rfl dX12_move_71 ?_
              refine lv_iconst (v := (3 : Int32)) C.1 C.2.1 dX12_move_74 (by decide) ?_
              refine lv_iload_n C.1 C.2.1 dX12_move_75 rfl (lv_at hl 1 rfl) ?_
              refine lv_iadd C.1 C.2.1 dX12_move_76 ?_
              refine lv_dup2_11 C.1 C.2.1 dX12_move_77 rfl rfl ?_
              obtain ⟨v7, e7, hi7, h⟩ := ldI_ok h
              refine hr_ild C hR aM_55 hi7 e7 dX12_move_78 ?_
              refine lv_iload_n C.1 C.2.1 dX12_move_79 rfl (lv_at hl 3 rfl) ?_
              refine lv_isub C.1 C.2.1 dX12_move_80 ?_
              obtain ⟨S8, e8, hi8, h⟩ := stI_ok h
              refine hr_ist C hR aM_55 hi8 e8 dX12_move_81 (fun H locs hR => ?_)
              refine lv_aload_n C.1 C.2.1 dX12_move_82 rfl (lv_at hl 0 rfl) ?_
              refine ho_getR (a' := 55) C cf12 fM_139 hR aM_0 rfl dX12_move_83 ?_
              refine lv_iconst (v := (3 : Int32)) C.1 C.2.1 dX12_move_86 (by decide) ?_
              refine lv_iload_n C.1 C.2.1 dX12_move_87 rfl (lv_at hl 2 rfl) ?_
              refine lv_iadd C.1 C.2.1 dX12_move_88 ?_
              refine lv_dup2_11 C.1 C.2.1 dX12_move_89 rfl rfl ?_
              obtain ⟨v9, e9, hi9, h⟩ := ldI_ok h
              refine hr_ild C hR aM_55 hi9 e9 dX12_move_90 ?_
              refine lv_iload_n C.1 C.2.1 dX12_move_91 rfl (lv_at hl 3 rfl) ?_
              refine lv_iadd C.1 C.2.1 dX12_move_92 ?_
              obtain ⟨S10, e10, hi10, h⟩ := stI_ok h
              refine hr_ist C hR aM_55 hi10 e10 dX12_move_93 (fun H locs hR => ?_)
              refine lv_iconst (v := (1 : Int32)) C.1 C.2.1 dX12_move_94 (by decide) ?_
              exact ho_zret C hR (Or.inr rfl) h dX12_move_95
            · replace h := if_f h hc
              exact w_X12_move_61 C S3 h _ _ _ hR (lv_sub hl [0] rfl)
theorem dX12_years_0 : decode cX12_years 0 = .ok (.aload_n 0, 1) := by decide +kernel
theorem dX12_years_1 : decode cX12_years 1 = .ok (.iload_n 1, 1) := by decide +kernel
theorem dX12_years_2 : decode cX12_years 2 = .ok (.iconst 1, 1) := by decide +kernel
theorem dX12_years_3 : decode cX12_years 3 = .ok (.bipush 100, 2) := by decide +kernel
theorem dX12_years_5 : decode cX12_years 5 = .ok (.invokevirtual 551, 3) := by decide +kernel
theorem dX12_years_8 : decode cX12_years 8 = .ok (.ifCond .ne 9, 3) := by decide +kernel
theorem dX12_years_11 : decode cX12_years 11 = .ok (.aload_n 0, 1) := by decide +kernel
theorem dX12_years_12 : decode cX12_years 12 = .ok (.iconst 3, 1) := by decide +kernel
theorem dX12_years_13 : decode cX12_years 13 = .ok (.invokevirtual 565, 3) := by decide +kernel
theorem dX12_years_16 : decode cX12_years 16 = .ok (.ireturn, 1) := by decide +kernel
theorem dX12_years_17 : decode cX12_years 17 = .ok (.aload_n 0, 1) := by decide +kernel
theorem dX12_years_18 : decode cX12_years 18 = .ok (.invokevirtual 586, 3) := by decide +kernel
theorem dX12_years_21 : decode cX12_years 21 = .ok (.aload_n 0, 1) := by decide +kernel
theorem dX12_years_22 : decode cX12_years 22 = .ok (.iconst 0, 1) := by decide +kernel
theorem dX12_years_23 : decode cX12_years 23 = .ok (.putfield 497, 3) := by decide +kernel
theorem dX12_years_26 : decode cX12_years 26 = .ok (.aload_n 0, 1) := by decide +kernel
theorem dX12_years_27 : decode cX12_years 27 = .ok (.iload_n 1, 1) := by decide +kernel
theorem dX12_years_28 : decode cX12_years 28 = .ok (.invokevirtual 559, 3) := by decide +kernel
theorem dX12_years_31 : decode cX12_years 31 = .ok (.aload_n 0, 1) := by decide +kernel
theorem dX12_years_32 : decode cX12_years 32 = .ok (.getfield 497, 3) := by decide +kernel
theorem dX12_years_35 : decode cX12_years 35 = .ok (.ireturn, 1) := by decide +kernel
def f_X12_years (x1 : Int32) (S : Hp) : Option (Int32 × Hp) :=
  ob2 (f_X12_isAhead x1 (1 : Int32) (100 : Int32) S) (fun r1 S1 => if r1 = 0 then ob2 (f_X12_refuses (3 : Int32) S1) (fun r5 S5 => some (r5, S5)) else ob (f_X12_keeps S1) (fun S2 => le1 (ho_sI S2 0 63 (0 : Int32)) (fun S3 => ob (f_X12_yearsGo x1 S3) (fun S4 => some ((S4.1 0 63), S4)))))
set_option maxHeartbeats 4000000 in
set_option maxRecDepth 100000 in
theorem c_X12_years (l : Launch) (E : Ev) (x1 : Int32) (S : Hp) (r : (Int32 × Hp)) (h : f_X12_years x1 S = some r) : ho_M l yM E yX12_years cX12_years 2 (some .int) 10 [.ref (E.2.1 0), .int x1] S (some (.int r.1), r.2) := by
  refine ho_in (by decide) (Nat.le_of_ble_eq_true rfl) ?_
  intro p e s m args below meth c C hR ls hl
  have C : ho_I p s m args meth c RX12 cX12_years 2 (some .int) := C
  have hl : lv_has ls 2 [(0, .ref (E.2.1 0)), (1, .int x1)] := hl
  unfold f_X12_years at h
  refine lv_aload_n C.1 C.2.1 dX12_years_0 rfl (lv_at hl 0 rfl) ?_
  refine lv_iload_n C.1 C.2.1 dX12_years_1 rfl (lv_at hl 1 rfl) ?_
  refine lv_iconst (v := (1 : Int32)) C.1 C.2.1 dX12_years_2 (by decide) ?_
  refine lv_bipush (v := (100 : Int32)) C.1 C.2.1 dX12_years_3 (by decide) ?_
  obtain ⟨r1, S1, h1, h⟩ := ob2_ok h
  refine hr_Vi (v := r1) (S' := S1) (As := [.int x1, .int (1 : Int32), .int (100 : Int32)]) (rest := []) C cf12 (c_X12_isAhead l E x1 (1 : Int32) (100 : Int32) _ _ h1) yv_X12_isAhead lk_RX12_551 rfl aM_0 rfl rfl hl.1 (Nat.le_of_ble_eq_true rfl) (by decide) (by decide) hR (ho_A hR) dX12_years_5 (fun H locs hR => ?_)
  refine lv_if_ne (tgt := 17) C.1 C.2.1 dX12_years_8 (by decide) (fun hc => ?_) (fun hc => ?_)
  · replace h := if_f h hc
    refine lv_aload_n C.1 C.2.1 dX12_years_17 rfl (lv_at hl 0 rfl) ?_
    obtain ⟨S2, h2, h⟩ := ob_ok h
    refine hr_Vv (S' := S2) (As := []) (rest := []) C cf12 (c_X12_keeps l E _ _ h2) yv_X12_keeps lk_RX12_586 rfl aM_0 rfl rfl hl.1 (Nat.le_of_ble_eq_true rfl) (by decide) (by decide) hR (ho_A hR) dX12_years_18 (fun H locs hR => ?_)
    refine lv_aload_n C.1 C.2.1 dX12_years_21 rfl (lv_at hl 0 rfl) ?_
    refine lv_iconst (v := (0 : Int32)) C.1 C.2.1 dX12_years_22 (by decide) ?_
    obtain ⟨S3, e3, h⟩ := le1_ok h
    refine hr_putI C cf12 fM_497 hR aM_0 e3 dX12_years_23 (fun H locs hR => ?_)
    refine lv_aload_n C.1 C.2.1 dX12_years_26 rfl (lv_at hl 0 rfl) ?_
    refine lv_iload_n C.1 C.2.1 dX12_years_27 rfl (lv_at hl 1 rfl) ?_
    obtain ⟨S4, h4, h⟩ := ob_ok h
    refine hr_Vv (S' := S4) (As := [.int x1]) (rest := []) C cf12 (c_X12_yearsGo l E x1 _ _ h4) yv_X12_yearsGo lk_RX12_559 rfl aM_0 rfl rfl hl.1 (Nat.le_of_ble_eq_true rfl) (by decide) (by decide) hR (ho_A hR) dX12_years_28 (fun H locs hR => ?_)
    refine lv_aload_n C.1 C.2.1 dX12_years_31 rfl (lv_at hl 0 rfl) ?_
    refine ho_getI C cf12 fM_497 hR aM_0 dX12_years_32 ?_
    exact ho_iret C hR h dX12_years_35
  · replace h := if_t h hc
    refine lv_aload_n C.1 C.2.1 dX12_years_11 rfl (lv_at hl 0 rfl) ?_
    refine lv_iconst (v := (3 : Int32)) C.1 C.2.1 dX12_years_12 (by decide) ?_
    obtain ⟨r5, S5, h5, h⟩ := ob2_ok h
    refine hr_Vi (v := r5) (S' := S5) (As := [.int (3 : Int32)]) (rest := []) C cf12 (c_X12_refuses l E (3 : Int32) _ _ h5) yv_X12_refuses lk_RX12_565 rfl aM_0 rfl rfl hl.1 (Nat.le_of_ble_eq_true rfl) (by decide) (by decide) hR (ho_A hR) dX12_years_13 (fun H locs hR => ?_)
    exact ho_iret C hR h dX12_years_16
theorem dX12_seed_0 : decode cX12_seed 0 = .ok (.iload_n 1, 1) := by decide +kernel
theorem dX12_seed_1 : decode cX12_seed 1 = .ok (.ifCond .ge 15, 3) := by decide +kernel
theorem dX12_seed_4 : decode cX12_seed 4 = .ok (.aload_n 0, 1) := by decide +kernel
theorem dX12_seed_5 : decode cX12_seed 5 = .ok (.getfield 17, 3) := by decide +kernel
theorem dX12_seed_8 : decode cX12_seed 8 = .ok (.iconst 5, 1) := by decide +kernel
theorem dX12_seed_9 : decode cX12_seed 9 = .ok (.dup2, 1) := by decide +kernel
theorem dX12_seed_10 : decode cX12_seed 10 = .ok (.iaload, 1) := by decide +kernel
theorem dX12_seed_11 : decode cX12_seed 11 = .ok (.iconst 1, 1) := by decide +kernel
theorem dX12_seed_12 : decode cX12_seed 12 = .ok (.iadd, 1) := by decide +kernel
theorem dX12_seed_13 : decode cX12_seed 13 = .ok (.iastore, 1) := by decide +kernel
theorem dX12_seed_14 : decode cX12_seed 14 = .ok (.iconst 0, 1) := by decide +kernel
theorem dX12_seed_15 : decode cX12_seed 15 = .ok (.ireturn, 1) := by decide +kernel
theorem dX12_seed_16 : decode cX12_seed 16 = .ok (.aload_n 0, 1) := by decide +kernel
theorem dX12_seed_17 : decode cX12_seed 17 = .ok (.iload_n 1, 1) := by decide +kernel
theorem dX12_seed_18 : decode cX12_seed 18 = .ok (.i2l, 1) := by decide +kernel
theorem dX12_seed_19 : decode cX12_seed 19 = .ok (.putfield 173, 3) := by decide +kernel
theorem dX12_seed_22 : decode cX12_seed 22 = .ok (.iconst 1, 1) := by decide +kernel
theorem dX12_seed_23 : decode cX12_seed 23 = .ok (.ireturn, 1) := by decide +kernel
def f_X12_seed (x1 : Int32) (S : Hp) : Option (Int32 × Hp) :=
  if 0 ≤ x1 then le1 (ho_sJ S 0 74 (x1.toInt64)) (fun S1 => some ((1 : Int32), S1)) else ldI S 10 6 (5 : Int32) (fun v2 => stI S 10 6 (5 : Int32) (v2 + (1 : Int32)) (fun S3 => some ((0 : Int32), S3)))
set_option maxHeartbeats 4000000 in
set_option maxRecDepth 100000 in
theorem c_X12_seed (l : Launch) (E : Ev) (x1 : Int32) (S : Hp) (r : (Int32 × Hp)) (h : f_X12_seed x1 S = some r) : ho_M l yM E yX12_seed cX12_seed 2 (some .boolean) 0 [.ref (E.2.1 0), .int x1] S (some (.int r.1), r.2) := by
  refine ho_in (by decide) (Nat.le_of_ble_eq_true rfl) ?_
  intro p e s m args below meth c C hR ls hl
  have C : ho_I p s m args meth c RX12 cX12_seed 2 (some .boolean) := C
  have hl : lv_has ls 2 [(0, .ref (E.2.1 0)), (1, .int x1)] := hl
  unfold f_X12_seed at h
  refine lv_iload_n C.1 C.2.1 dX12_seed_0 rfl (lv_at hl 1 rfl) ?_
  refine lv_if_ge (tgt := 16) C.1 C.2.1 dX12_seed_1 (by decide) (fun hc => ?_) (fun hc => ?_)
  · replace h := if_t h hc
    refine lv_aload_n C.1 C.2.1 dX12_seed_16 rfl (lv_at hl 0 rfl) ?_
    refine lv_iload_n C.1 C.2.1 dX12_seed_17 rfl (lv_at hl 1 rfl) ?_
    refine lv_i2l (v := (x1.toInt64)) C.1 C.2.1 dX12_seed_18 rfl ?_
    obtain ⟨S1, e1, h⟩ := le1_ok h
    refine hr_putJ C cf12 fM_173 hR aM_0 e1 dX12_seed_19 (fun H locs hR => ?_)
    refine lv_iconst (v := (1 : Int32)) C.1 C.2.1 dX12_seed_22 (by decide) ?_
    exact ho_zret C hR (Or.inr rfl) h dX12_seed_23
  · replace h := if_f h hc
    refine lv_aload_n C.1 C.2.1 dX12_seed_4 rfl (lv_at hl 0 rfl) ?_
    refine ho_getR (a' := 10) C cf12 fM_17 hR aM_0 rfl dX12_seed_5 ?_
    refine lv_iconst (v := (5 : Int32)) C.1 C.2.1 dX12_seed_8 (by decide) ?_
    refine lv_dup2_11 C.1 C.2.1 dX12_seed_9 rfl rfl ?_
    obtain ⟨v2, e2, hi2, h⟩ := ldI_ok h
    refine hr_ild C hR aM_10 hi2 e2 dX12_seed_10 ?_
    refine lv_iconst (v := (1 : Int32)) C.1 C.2.1 dX12_seed_11 (by decide) ?_
    refine lv_iadd C.1 C.2.1 dX12_seed_12 ?_
    obtain ⟨S3, e3, hi3, h⟩ := stI_ok h
    refine hr_ist C hR aM_10 hi3 e3 dX12_seed_13 (fun H locs hR => ?_)
    refine lv_iconst (v := (0 : Int32)) C.1 C.2.1 dX12_seed_14 (by decide) ?_
    exact ho_zret C hR (Or.inl rfl) h dX12_seed_15
theorem dX12_drawOf_0 : decode cX12_drawOf 0 = .ok (.aload_n 0, 1) := by decide +kernel
theorem dX12_drawOf_1 : decode cX12_drawOf 1 = .ok (.ldc2_w 596, 3) := by decide +kernel
theorem dX12_drawOf_4 : decode cX12_drawOf 4 = .ok (.aload_n 0, 1) := by decide +kernel
theorem dX12_drawOf_5 : decode cX12_drawOf 5 = .ok (.getfield 173, 3) := by decide +kernel
theorem dX12_drawOf_8 : decode cX12_drawOf 8 = .ok (.lmul, 1) := by decide +kernel
theorem dX12_drawOf_9 : decode cX12_drawOf 9 = .ok (.ldc2_w 598, 3) := by decide +kernel
theorem dX12_drawOf_12 : decode cX12_drawOf 12 = .ok (.ladd, 1) := by decide +kernel
theorem dX12_drawOf_13 : decode cX12_drawOf 13 = .ok (.ldc2_w 600, 3) := by decide +kernel
theorem dX12_drawOf_16 : decode cX12_drawOf 16 = .ok (.lrem, 1) := by decide +kernel
theorem dX12_drawOf_17 : decode cX12_drawOf 17 = .ok (.putfield 173, 3) := by decide +kernel
theorem dX12_drawOf_20 : decode cX12_drawOf 20 = .ok (.aload_n 0, 1) := by decide +kernel
theorem dX12_drawOf_21 : decode cX12_drawOf 21 = .ok (.getfield 173, 3) := by decide +kernel
theorem dX12_drawOf_24 : decode cX12_drawOf 24 = .ok (.ldc2_w 602, 3) := by decide +kernel
theorem dX12_drawOf_27 : decode cX12_drawOf 27 = .ok (.ldiv, 1) := by decide +kernel
theorem dX12_drawOf_28 : decode cX12_drawOf 28 = .ok (.iload_n 1, 1) := by decide +kernel
theorem dX12_drawOf_29 : decode cX12_drawOf 29 = .ok (.i2l, 1) := by decide +kernel
theorem dX12_drawOf_30 : decode cX12_drawOf 30 = .ok (.lrem, 1) := by decide +kernel
theorem dX12_drawOf_31 : decode cX12_drawOf 31 = .ok (.l2i, 1) := by decide +kernel
theorem dX12_drawOf_32 : decode cX12_drawOf 32 = .ok (.ireturn, 1) := by decide +kernel
def f_X12_drawOf (x1 : Int32) (S : Hp) : Option (Int32 × Hp) :=
  le1 (ho_sJ S 0 74 ((((1103515245 : Int64) * (S.2.1 0 74)) + (12345 : Int64)) - (((1103515245 : Int64) * (S.2.1 0 74)) + (12345 : Int64)) / (2147483648 : Int64) * (2147483648 : Int64))) (fun S1 => nzl (x1.toInt64) (some (((((S1.2.1 0 74) / (64 : Int64)) - ((S1.2.1 0 74) / (64 : Int64)) / (x1.toInt64) * (x1.toInt64)).toInt32), S1)))
set_option maxHeartbeats 4000000 in
set_option maxRecDepth 100000 in
theorem c_X12_drawOf (l : Launch) (E : Ev) (x1 : Int32) (S : Hp) (r : (Int32 × Hp)) (h : f_X12_drawOf x1 S = some r) : ho_M l yM E yX12_drawOf cX12_drawOf 2 (some .int) 0 [.ref (E.2.1 0), .int x1] S (some (.int r.1), r.2) := by
  refine ho_in (by decide) (Nat.le_of_ble_eq_true rfl) ?_
  intro p e s m args below meth c C hR ls hl
  have C : ho_I p s m args meth c RX12 cX12_drawOf 2 (some .int) := C
  have hl : lv_has ls 2 [(0, .ref (E.2.1 0)), (1, .int x1)] := hl
  unfold f_X12_drawOf at h
  refine lv_aload_n C.1 C.2.1 dX12_drawOf_0 rfl (lv_at hl 0 rfl) ?_
  refine lv_ldc2 (v := (1103515245 : Int64)) C.1 C.2.1 C.2.2.2.2.1 (C.2.2.2.2.2.1 _ kc_RX12_596) dX12_drawOf_1 ?_
  refine lv_aload_n C.1 C.2.1 dX12_drawOf_4 rfl (lv_at hl 0 rfl) ?_
  refine ho_getJ C cf12 fM_173 hR aM_0 dX12_drawOf_5 ?_
  refine lv_lmul C.1 C.2.1 dX12_drawOf_8 ?_
  refine lv_ldc2 (v := (12345 : Int64)) C.1 C.2.1 C.2.2.2.2.1 (C.2.2.2.2.2.1 _ kc_RX12_598) dX12_drawOf_9 ?_
  refine lv_ladd C.1 C.2.1 dX12_drawOf_12 ?_
  refine lv_ldc2 (v := (2147483648 : Int64)) C.1 C.2.1 C.2.2.2.2.1 (C.2.2.2.2.2.1 _ kc_RX12_600) dX12_drawOf_13 ?_
  refine lv_lrem C.1 C.2.1 dX12_drawOf_16 (by decide) ?_
  obtain ⟨S1, e1, h⟩ := le1_ok h
  refine hr_putJ C cf12 fM_173 hR aM_0 e1 dX12_drawOf_17 (fun H locs hR => ?_)
  refine lv_aload_n C.1 C.2.1 dX12_drawOf_20 rfl (lv_at hl 0 rfl) ?_
  refine ho_getJ C cf12 fM_173 hR aM_0 dX12_drawOf_21 ?_
  refine lv_ldc2 (v := (64 : Int64)) C.1 C.2.1 C.2.2.2.2.1 (C.2.2.2.2.2.1 _ kc_RX12_602) dX12_drawOf_24 ?_
  refine lv_ldiv C.1 C.2.1 dX12_drawOf_27 (by decide) ?_
  refine lv_iload_n C.1 C.2.1 dX12_drawOf_28 rfl (lv_at hl 1 rfl) ?_
  refine lv_i2l (v := (x1.toInt64)) C.1 C.2.1 dX12_drawOf_29 rfl ?_
  obtain ⟨hz2, h⟩ := nzl_ok h
  refine lv_lrem C.1 C.2.1 dX12_drawOf_30 hz2 ?_
  refine lv_l2i (v := ((((S1.2.1 0 74) / (64 : Int64)) - ((S1.2.1 0 74) / (64 : Int64)) / (x1.toInt64) * (x1.toInt64)).toInt32)) C.1 C.2.1 dX12_drawOf_31 rfl ?_
  exact ho_iret C hR h dX12_drawOf_32
theorem dX12_chance_0 : decode cX12_chance 0 = .ok (.aload_n 0, 1) := by decide +kernel
theorem dX12_chance_1 : decode cX12_chance 1 = .ok (.iload_n 1, 1) := by decide +kernel
theorem dX12_chance_2 : decode cX12_chance 2 = .ok (.iconst 1, 1) := by decide +kernel
theorem dX12_chance_3 : decode cX12_chance 3 = .ok (.bipush 100, 2) := by decide +kernel
theorem dX12_chance_5 : decode cX12_chance 5 = .ok (.invokevirtual 551, 3) := by decide +kernel
theorem dX12_chance_8 : decode cX12_chance 8 = .ok (.ifCond .ne 9, 3) := by decide +kernel
theorem dX12_chance_11 : decode cX12_chance 11 = .ok (.aload_n 0, 1) := by decide +kernel
theorem dX12_chance_12 : decode cX12_chance 12 = .ok (.iconst 3, 1) := by decide +kernel
theorem dX12_chance_13 : decode cX12_chance 13 = .ok (.invokevirtual 565, 3) := by decide +kernel
theorem dX12_chance_16 : decode cX12_chance 16 = .ok (.ireturn, 1) := by decide +kernel
theorem dX12_chance_17 : decode cX12_chance 17 = .ok (.aload_n 0, 1) := by decide +kernel
theorem dX12_chance_18 : decode cX12_chance 18 = .ok (.invokevirtual 586, 3) := by decide +kernel
theorem dX12_chance_21 : decode cX12_chance 21 = .ok (.iconst 0, 1) := by decide +kernel
theorem dX12_chance_22 : decode cX12_chance 22 = .ok (.istore_n 2, 1) := by decide +kernel
theorem dX12_chance_23 : decode cX12_chance 23 = .ok (.iconst 0, 1) := by decide +kernel
theorem dX12_chance_24 : decode cX12_chance 24 = .ok (.istore_n 3, 1) := by decide +kernel
theorem dX12_chance_25 : decode cX12_chance 25 = .ok (.iload_n 3, 1) := by decide +kernel
theorem dX12_chance_26 : decode cX12_chance 26 = .ok (.iload_n 1, 1) := by decide +kernel
theorem dX12_chance_27 : decode cX12_chance 27 = .ok (.if_icmp .ge 85, 3) := by decide +kernel
theorem dX12_chance_30 : decode cX12_chance 30 = .ok (.aload_n 0, 1) := by decide +kernel
theorem dX12_chance_31 : decode cX12_chance 31 = .ok (.bipush 100, 2) := by decide +kernel
theorem dX12_chance_33 : decode cX12_chance 33 = .ok (.invokevirtual 604, 3) := by decide +kernel
theorem dX12_chance_36 : decode cX12_chance 36 = .ok (.aload_n 0, 1) := by decide +kernel
theorem dX12_chance_37 : decode cX12_chance 37 = .ok (.getfield 127, 3) := by decide +kernel
theorem dX12_chance_40 : decode cX12_chance 40 = .ok (.iconst 3, 1) := by decide +kernel
theorem dX12_chance_41 : decode cX12_chance 41 = .ok (.iaload, 1) := by decide +kernel
theorem dX12_chance_42 : decode cX12_chance 42 = .ok (.if_icmp .ge 60, 3) := by decide +kernel
theorem dX12_chance_45 : decode cX12_chance 45 = .ok (.aload_n 0, 1) := by decide +kernel
theorem dX12_chance_46 : decode cX12_chance 46 = .ok (.invokevirtual 410, 3) := by decide +kernel
theorem dX12_chance_49 : decode cX12_chance 49 = .ok (.ifCond .le 53, 3) := by decide +kernel
theorem dX12_chance_52 : decode cX12_chance 52 = .ok (.aload_n 0, 1) := by decide +kernel
theorem dX12_chance_53 : decode cX12_chance 53 = .ok (.aload_n 0, 1) := by decide +kernel
theorem dX12_chance_54 : decode cX12_chance 54 = .ok (.invokevirtual 410, 3) := by decide +kernel
theorem dX12_chance_57 : decode cX12_chance 57 = .ok (.invokevirtual 604, 3) := by decide +kernel
theorem dX12_chance_60 : decode cX12_chance 60 = .ok (.istore 4, 2) := by decide +kernel
theorem dX12_chance_62 : decode cX12_chance 62 = .ok (.aload_n 0, 1) := by decide +kernel
theorem dX12_chance_63 : decode cX12_chance 63 = .ok (.iload 4, 2) := by decide +kernel
theorem dX12_chance_65 : decode cX12_chance 65 = .ok (.invokevirtual 449, 3) := by decide +kernel
theorem dX12_chance_68 : decode cX12_chance 68 = .ok (.bipush 50, 2) := by decide +kernel
theorem dX12_chance_70 : decode cX12_chance 70 = .ok (.iadd, 1) := by decide +kernel
theorem dX12_chance_71 : decode cX12_chance 71 = .ok (.istore 5, 2) := by decide +kernel
theorem dX12_chance_73 : decode cX12_chance 73 = .ok (.aload_n 0, 1) := by decide +kernel
theorem dX12_chance_74 : decode cX12_chance 74 = .ok (.getfield 139, 3) := by decide +kernel
theorem dX12_chance_77 : decode cX12_chance 77 = .ok (.bipush 15, 2) := by decide +kernel
theorem dX12_chance_79 : decode cX12_chance 79 = .ok (.iload 4, 2) := by decide +kernel
theorem dX12_chance_81 : decode cX12_chance 81 = .ok (.iadd, 1) := by decide +kernel
theorem dX12_chance_82 : decode cX12_chance 82 = .ok (.iload 5, 2) := by decide +kernel
theorem dX12_chance_84 : decode cX12_chance 84 = .ok (.sipush 999, 3) := by decide +kernel
theorem dX12_chance_87 : decode cX12_chance 87 = .ok (.if_icmp .le 9, 3) := by decide +kernel
theorem dX12_chance_90 : decode cX12_chance 90 = .ok (.sipush 999, 3) := by decide +kernel
theorem dX12_chance_93 : decode cX12_chance 93 = .ok (.goto 5, 3) := by decide +kernel
theorem dX12_chance_96 : decode cX12_chance 96 = .ok (.iload 5, 2) := by decide +kernel
theorem dX12_chance_98 : decode cX12_chance 98 = .ok (.iastore, 1) := by decide +kernel
theorem dX12_chance_99 : decode cX12_chance 99 = .ok (.iinc 2 1, 3) := by decide +kernel
theorem dX12_chance_102 : decode cX12_chance 102 = .ok (.aload_n 0, 1) := by decide +kernel
theorem dX12_chance_103 : decode cX12_chance 103 = .ok (.invokevirtual 517, 3) := by decide +kernel
theorem dX12_chance_106 : decode cX12_chance 106 = .ok (.iinc 3 1, 3) := by decide +kernel
theorem dX12_chance_109 : decode cX12_chance 109 = .ok (.goto (-84), 3) := by decide +kernel
theorem dX12_chance_112 : decode cX12_chance 112 = .ok (.iload_n 2, 1) := by decide +kernel
theorem dX12_chance_113 : decode cX12_chance 113 = .ok (.ireturn, 1) := by decide +kernel
def f_X12_chance_102 (K25 : Int32 → Int32 → Int32 → Hp → Option (Int32 × Hp)) (x1 : Int32) (x2 : Int32) (x3 : Int32) (S : Hp) : Option (Int32 × Hp) :=
  ob (f_X12_yearGoes S) (fun S1 => le1 (x3 + (1 : Int32)) (fun v2 => K25 x1 x2 v2 S1))
set_option maxHeartbeats 4000000 in
set_option maxRecDepth 100000 in
theorem w_X12_chance_102 {p : Program} {l : Launch} {e : Env} {s : State} {m : MethodId} {args : Array Value} {below : List Frame} {meth : Method} {c : Code} {E : Ev} {S0 : Hp} {r : (Int32 × Hp)} (C : ho_I p s m args meth c RX12 cX12_chance 6 (some .int)) (K25 : Int32 → Int32 → Int32 → Hp → Option (Int32 × Hp)) (hK25 : ∀ (y1 : Int32) (y2 : Int32) (y3 : Int32) (S : Hp), K25 y1 y2 y3 S = some r → ho_G p l e s m args below meth c yM E S0 9 6 (some (.int r.1), r.2) 25 [(0, .ref (E.2.1 0)), (1, .int y1), (2, .int y2), (3, .int y3)] [] S) :
    ∀ (x1 : Int32) (x2 : Int32) (x3 : Int32) (S : Hp), f_X12_chance_102 K25 x1 x2 x3 S = some r → ho_G p l e s m args below meth c yM E S0 9 6 (some (.int r.1), r.2) 102 [(0, .ref (E.2.1 0)), (1, .int x1), (2, .int x2), (3, .int x3)] [] S := by
  intro x1 x2 x3 S h H locs ls hR hl
  unfold f_X12_chance_102 at h
  refine lv_aload_n C.1 C.2.1 dX12_chance_102 rfl (lv_at hl 0 rfl) ?_
  obtain ⟨S1, h1, h⟩ := ob_ok h
  refine hr_Vv (S' := S1) (As := []) (rest := []) C cf12 (c_X12_yearGoes l E _ _ h1) yv_X12_yearGoes lk_RX12_517 rfl aM_0 rfl rfl hl.1 (Nat.le_of_ble_eq_true rfl) (by decide) (by decide) hR (ho_A hR) dX12_chance_103 (fun H locs hR => ?_)
  obtain ⟨v2, e2, h⟩ := le1_ok h
  refine lv_iinc (v := v2) (lv' := [(3, .int v2), (0, .ref (E.2.1 0)), (1, .int x1), (2, .int x2)]) C.1 C.2.1 dX12_chance_106 hl (k := 3) rfl (by rw [e2]; rfl) (by decide) rfl (fun ls hl => ?_)
  refine lv_goto (tgt := 25) C.1 C.2.1 dX12_chance_109 (by decide) ?_
  exact hK25 x1 x2 v2 S1 h _ _ _ hR (lv_sub hl [1, 2, 3, 0] rfl)
def f_X12_chance_98 (K25 : Int32 → Int32 → Int32 → Hp → Option (Int32 × Hp)) (x1 : Int32) (x2 : Int32) (x3 : Int32) (z1 : Int32) (z2 : Int32) (S : Hp) : Option (Int32 × Hp) :=
  stI S 55 117 z1 z2 (fun S1 => le1 (x2 + (1 : Int32)) (fun v2 => f_X12_chance_102 K25 x1 v2 x3 S1))
set_option maxHeartbeats 4000000 in
set_option maxRecDepth 100000 in
theorem w_X12_chance_98 {p : Program} {l : Launch} {e : Env} {s : State} {m : MethodId} {args : Array Value} {below : List Frame} {meth : Method} {c : Code} {E : Ev} {S0 : Hp} {r : (Int32 × Hp)} (C : ho_I p s m args meth c RX12 cX12_chance 6 (some .int)) (K25 : Int32 → Int32 → Int32 → Hp → Option (Int32 × Hp)) (hK25 : ∀ (y1 : Int32) (y2 : Int32) (y3 : Int32) (S : Hp), K25 y1 y2 y3 S = some r → ho_G p l e s m args below meth c yM E S0 9 6 (some (.int r.1), r.2) 25 [(0, .ref (E.2.1 0)), (1, .int y1), (2, .int y2), (3, .int y3)] [] S) :
    ∀ (x1 : Int32) (x2 : Int32) (x3 : Int32) (z1 : Int32) (z2 : Int32) (S : Hp), f_X12_chance_98 K25 x1 x2 x3 z1 z2 S = some r → ho_G p l e s m args below meth c yM E S0 9 6 (some (.int r.1), r.2) 98 [(0, .ref (E.2.1 0)), (1, .int x1), (2, .int x2), (3, .int x3)] [.int z2, .int z1, .ref (E.2.1 55)] S := by
  intro x1 x2 x3 z1 z2 S h H locs ls hR hl
  unfold f_X12_chance_98 at h
  obtain ⟨S1, e1, hi1, h⟩ := stI_ok h
  refine hr_ist C hR aM_55 hi1 e1 dX12_chance_98 (fun H locs hR => ?_)
  obtain ⟨v2, e2, h⟩ := le1_ok h
  refine lv_iinc (v := v2) (lv' := [(2, .int v2), (0, .ref (E.2.1 0)), (1, .int x1), (3, .int x3)]) C.1 C.2.1 dX12_chance_99 hl (k := 2) rfl (by rw [e2]; rfl) (by decide) rfl (fun ls hl => ?_)
  exact w_X12_chance_102 C K25 hK25 x1 v2 x3 S1 h _ _ _ hR (lv_sub hl [1, 2, 0, 3] rfl)
def f_X12_chance_25 : Nat → Int32 → Int32 → Int32 → Hp → Option (Int32 × Hp)
  | 0, _, _, _, _ => none
  | k + 1, x1, x2, x3, S => if x1 ≤ x3 then some (x2, S) else ob2 (f_X12_drawOf (100 : Int32) S) (fun r1 S1 => ldI S1 47 4 (3 : Int32) (fun v2 => if v2 ≤ r1 then f_X12_chance_102 (f_X12_chance_25 k) x1 x2 x3 S1 else ob2 (f_X12_trickMany S1) (fun r3 S3 => if r3 ≤ 0 then f_X12_chance_102 (f_X12_chance_25 k) x1 x2 x3 S3 else ob2 (f_X12_trickMany S3) (fun r4 S4 => ob2 (f_X12_drawOf r4 S4) (fun r5 S5 => ob2 (f_X12_knownOf r5 S5) (fun r6 S6 => le1 (r6 + (50 : Int32)) (fun v7 => if v7 ≤ (999 : Int32) then f_X12_chance_98 (f_X12_chance_25 k) x1 x2 x3 ((15 : Int32) + r5) v7 S6 else f_X12_chance_98 (f_X12_chance_25 k) x1 x2 x3 ((15 : Int32) + r5) (999 : Int32) S6)))))))
set_option maxHeartbeats 4000000 in
set_option maxRecDepth 100000 in
theorem w_X12_chance_25 {p : Program} {l : Launch} {e : Env} {s : State} {m : MethodId} {args : Array Value} {below : List Frame} {meth : Method} {c : Code} {E : Ev} {S0 : Hp} {r : (Int32 × Hp)} (C : ho_I p s m args meth c RX12 cX12_chance 6 (some .int)) :
    ∀ (k : Nat) (x1 : Int32) (x2 : Int32) (x3 : Int32) (S : Hp), f_X12_chance_25 k x1 x2 x3 S = some r → ho_G p l e s m args below meth c yM E S0 9 6 (some (.int r.1), r.2) 25 [(0, .ref (E.2.1 0)), (1, .int x1), (2, .int x2), (3, .int x3)] [] S := by
  intro k
  induction k with
  | zero =>
    intro x1 x2 x3 S h
    exact absurd (show (none : Option (Int32 × Hp)) = some r from h) (by simp)
  | succ k ih =>
    intro x1 x2 x3 S h H locs ls hR hl
    rw [f_X12_chance_25] at h
    refine lv_iload_n C.1 C.2.1 dX12_chance_25 rfl (lv_at hl 3 rfl) ?_
    refine lv_iload_n C.1 C.2.1 dX12_chance_26 rfl (lv_at hl 1 rfl) ?_
    refine lv_icmp_ge (tgt := 112) C.1 C.2.1 dX12_chance_27 (by decide) (fun hc => ?_) (fun hc => ?_)
    · replace h := if_t h hc
      refine lv_iload_n C.1 C.2.1 dX12_chance_112 rfl (lv_at hl 2 rfl) ?_
      exact ho_iret C hR h dX12_chance_113
    · replace h := if_f h hc
      refine lv_aload_n C.1 C.2.1 dX12_chance_30 rfl (lv_at hl 0 rfl) ?_
      refine lv_bipush (v := (100 : Int32)) C.1 C.2.1 dX12_chance_31 (by decide) ?_
      obtain ⟨r1, S1, h1, h⟩ := ob2_ok h
      refine hr_Vi (v := r1) (S' := S1) (As := [.int (100 : Int32)]) (rest := []) C cf12 (c_X12_drawOf l E (100 : Int32) _ _ h1) yv_X12_drawOf lk_RX12_604 rfl aM_0 rfl rfl hl.1 (Nat.le_of_ble_eq_true rfl) (by decide) (by decide) hR (ho_A hR) dX12_chance_33 (fun H locs hR => ?_)
      refine lv_aload_n C.1 C.2.1 dX12_chance_36 rfl (lv_at hl 0 rfl) ?_
      refine ho_getR (a' := 47) C cf12 fM_127 hR aM_0 rfl dX12_chance_37 ?_
      refine lv_iconst (v := (3 : Int32)) C.1 C.2.1 dX12_chance_40 (by decide) ?_
      obtain ⟨v2, e2, hi2, h⟩ := ldI_ok h
      refine hr_ild C hR aM_47 hi2 e2 dX12_chance_41 ?_
      refine lv_icmp_ge (tgt := 102) C.1 C.2.1 dX12_chance_42 (by decide) (fun hc => ?_) (fun hc => ?_)
      · replace h := if_t h hc
        exact w_X12_chance_102 C (f_X12_chance_25 k) ih x1 x2 x3 S1 h _ _ _ hR (lv_sub hl [0, 1, 2, 3] rfl)
      · replace h := if_f h hc
        refine lv_aload_n C.1 C.2.1 dX12_chance_45 rfl (lv_at hl 0 rfl) ?_
        obtain ⟨r3, S3, h3, h⟩ := ob2_ok h
        refine hr_Vi (v := r3) (S' := S3) (As := []) (rest := []) C cf12 (c_X12_trickMany l E _ _ h3) yv_X12_trickMany lk_RX12_410 rfl aM_0 rfl rfl hl.1 (Nat.le_of_ble_eq_true rfl) (by decide) (by decide) hR (ho_A hR) dX12_chance_46 (fun H locs hR => ?_)
        refine lv_if_le (tgt := 102) C.1 C.2.1 dX12_chance_49 (by decide) (fun hc => ?_) (fun hc => ?_)
        · replace h := if_t h hc
          exact w_X12_chance_102 C (f_X12_chance_25 k) ih x1 x2 x3 S3 h _ _ _ hR (lv_sub hl [0, 1, 2, 3] rfl)
        · replace h := if_f h hc
          refine lv_aload_n C.1 C.2.1 dX12_chance_52 rfl (lv_at hl 0 rfl) ?_
          refine lv_aload_n C.1 C.2.1 dX12_chance_53 rfl (lv_at hl 0 rfl) ?_
          obtain ⟨r4, S4, h4, h⟩ := ob2_ok h
          refine hr_Vi (v := r4) (S' := S4) (As := []) (rest := [.ref (E.2.1 0)]) C cf12 (c_X12_trickMany l E _ _ h4) yv_X12_trickMany lk_RX12_410 rfl aM_0 rfl rfl hl.1 (Nat.le_of_ble_eq_true rfl) (by decide) (by decide) hR (ho_A hR) dX12_chance_54 (fun H locs hR => ?_)
          obtain ⟨r5, S5, h5, h⟩ := ob2_ok h
          refine hr_Vi (v := r5) (S' := S5) (As := [.int r4]) (rest := []) C cf12 (c_X12_drawOf l E r4 _ _ h5) yv_X12_drawOf lk_RX12_604 rfl aM_0 rfl rfl hl.1 (Nat.le_of_ble_eq_true rfl) (by decide) (by decide) hR (ho_A hR) dX12_chance_57 (fun H locs hR => ?_)
          refine lv_istore (lv' := [(4, .int r5), (0, .ref (E.2.1 0)), (1, .int x1), (2, .int x2), (3, .int x3)]) C.1 C.2.1 dX12_chance_60 hl (by decide) rfl (fun ls hl => ?_)
          refine lv_aload_n C.1 C.2.1 dX12_chance_62 rfl (lv_at hl 1 rfl) ?_
          refine lv_iload C.1 C.2.1 dX12_chance_63 (lv_at hl 0 rfl) ?_
          obtain ⟨r6, S6, h6, h⟩ := ob2_ok h
          refine hr_Vi (v := r6) (S' := S6) (As := [.int r5]) (rest := []) C cf12 (c_X12_knownOf l E r5 _ _ h6) yv_X12_knownOf lk_RX12_449 rfl aM_0 rfl rfl hl.1 (Nat.le_of_ble_eq_true rfl) (by decide) (by decide) hR (ho_A hR) dX12_chance_65 (fun H locs hR => ?_)
          refine lv_bipush (v := (50 : Int32)) C.1 C.2.1 dX12_chance_68 (by decide) ?_
          refine lv_iadd C.1 C.2.1 dX12_chance_70 ?_
          refine lv_topi (fun v7 e7 => ?_)
          replace h := le1_at e7 h
          refine lv_istore (lv' := [(5, .int v7), (4, .int r5), (0, .ref (E.2.1 0)), (1, .int x1), (2, .int x2), (3, .int x3)]) C.1 C.2.1 dX12_chance_71 hl (by decide) rfl (fun ls hl => ?_)
          refine lv_aload_n C.1 C.2.1 dX12_chance_73 rfl (lv_at hl 2 rfl) ?_
          refine ho_getR (a' := 55) C cf12 fM_139 hR aM_0 rfl dX12_chance_74 ?_
          refine lv_bipush (v := (15 : Int32)) C.1 C.2.1 dX12_chance_77 (by decide) ?_
          refine lv_iload C.1 C.2.1 dX12_chance_79 (lv_at hl 1 rfl) ?_
          refine lv_iadd C.1 C.2.1 dX12_chance_81 ?_
          refine lv_iload C.1 C.2.1 dX12_chance_82 (lv_at hl 0 rfl) ?_
          refine lv_sipush (v := (999 : Int32)) C.1 C.2.1 dX12_chance_84 (by decide) ?_
          refine lv_icmp_le (tgt := 96) C.1 C.2.1 dX12_chance_87 (by decide) (fun hc => ?_) (fun hc => ?_)
          · replace h := if_t h hc
            refine lv_iload C.1 C.2.1 dX12_chance_96 (lv_at hl 0 rfl) ?_
            exact w_X12_chance_98 C (f_X12_chance_25 k) ih x1 x2 x3 ((15 : Int32) + r5) v7 S6 h _ _ _ hR (lv_sub hl [2, 3, 4, 5] rfl)
          · replace h := if_f h hc
            refine lv_sipush (v := (999 : Int32)) C.1 C.2.1 dX12_chance_90 (by decide) ?_
            refine lv_goto (tgt := 98) C.1 C.2.1 dX12_chance_93 (by decide) ?_
            exact w_X12_chance_98 C (f_X12_chance_25 k) ih x1 x2 x3 ((15 : Int32) + r5) (999 : Int32) S6 h _ _ _ hR (lv_sub hl [2, 3, 4, 5] rfl)
def f_X12_chance (x1 : Int32) (S : Hp) : Option (Int32 × Hp) :=
  ob2 (f_X12_isAhead x1 (1 : Int32) (100 : Int32) S) (fun r1 S1 => if r1 = 0 then ob2 (f_X12_refuses (3 : Int32) S1) (fun r3 S3 => some (r3, S3)) else ob (f_X12_keeps S1) (fun S2 => f_X12_chance_25 5000 x1 (0 : Int32) (0 : Int32) S2))
set_option maxHeartbeats 4000000 in
set_option maxRecDepth 100000 in
theorem c_X12_chance (l : Launch) (E : Ev) (x1 : Int32) (S : Hp) (r : (Int32 × Hp)) (h : f_X12_chance x1 S = some r) : ho_M l yM E yX12_chance cX12_chance 6 (some .int) 9 [.ref (E.2.1 0), .int x1] S (some (.int r.1), r.2) := by
  refine ho_in (by decide) (Nat.le_of_ble_eq_true rfl) ?_
  intro p e s m args below meth c C hR ls hl
  have C : ho_I p s m args meth c RX12 cX12_chance 6 (some .int) := C
  have hl : lv_has ls 6 [(0, .ref (E.2.1 0)), (1, .int x1)] := hl
  unfold f_X12_chance at h
  refine lv_aload_n C.1 C.2.1 dX12_chance_0 rfl (lv_at hl 0 rfl) ?_
  refine lv_iload_n C.1 C.2.1 dX12_chance_1 rfl (lv_at hl 1 rfl) ?_
  refine lv_iconst (v := (1 : Int32)) C.1 C.2.1 dX12_chance_2 (by decide) ?_
  refine lv_bipush (v := (100 : Int32)) C.1 C.2.1 dX12_chance_3 (by decide) ?_
  obtain ⟨r1, S1, h1, h⟩ := ob2_ok h
  refine hr_Vi (v := r1) (S' := S1) (As := [.int x1, .int (1 : Int32), .int (100 : Int32)]) (rest := []) C cf12 (c_X12_isAhead l E x1 (1 : Int32) (100 : Int32) _ _ h1) yv_X12_isAhead lk_RX12_551 rfl aM_0 rfl rfl hl.1 (Nat.le_of_ble_eq_true rfl) (by decide) (by decide) hR (ho_A hR) dX12_chance_5 (fun H locs hR => ?_)
  refine lv_if_ne (tgt := 17) C.1 C.2.1 dX12_chance_8 (by decide) (fun hc => ?_) (fun hc => ?_)
  · replace h := if_f h hc
    refine lv_aload_n C.1 C.2.1 dX12_chance_17 rfl (lv_at hl 0 rfl) ?_
    obtain ⟨S2, h2, h⟩ := ob_ok h
    refine hr_Vv (S' := S2) (As := []) (rest := []) C cf12 (c_X12_keeps l E _ _ h2) yv_X12_keeps lk_RX12_586 rfl aM_0 rfl rfl hl.1 (Nat.le_of_ble_eq_true rfl) (by decide) (by decide) hR (ho_A hR) dX12_chance_18 (fun H locs hR => ?_)
    refine lv_iconst (v := (0 : Int32)) C.1 C.2.1 dX12_chance_21 (by decide) ?_
    refine lv_istore_n (lv' := [(2, .int (0 : Int32)), (0, .ref (E.2.1 0)), (1, .int x1)]) C.1 C.2.1 dX12_chance_22 rfl hl (by decide) rfl (fun ls hl => ?_)
    refine lv_iconst (v := (0 : Int32)) C.1 C.2.1 dX12_chance_23 (by decide) ?_
    refine lv_istore_n (lv' := [(3, .int (0 : Int32)), (2, .int (0 : Int32)), (0, .ref (E.2.1 0)), (1, .int x1)]) C.1 C.2.1 dX12_chance_24 rfl hl (by decide) rfl (fun ls hl => ?_)
    exact w_X12_chance_25 C 5000 x1 (0 : Int32) (0 : Int32) S2 h _ _ _ hR (lv_sub hl [2, 3, 1, 0] rfl)
  · replace h := if_t h hc
    refine lv_aload_n C.1 C.2.1 dX12_chance_11 rfl (lv_at hl 0 rfl) ?_
    refine lv_iconst (v := (3 : Int32)) C.1 C.2.1 dX12_chance_12 (by decide) ?_
    obtain ⟨r3, S3, h3, h⟩ := ob2_ok h
    refine hr_Vi (v := r3) (S' := S3) (As := [.int (3 : Int32)]) (rest := []) C cf12 (c_X12_refuses l E (3 : Int32) _ _ h3) yv_X12_refuses lk_RX12_565 rfl aM_0 rfl rfl hl.1 (Nat.le_of_ble_eq_true rfl) (by decide) (by decide) hR (ho_A hR) dX12_chance_13 (fun H locs hR => ?_)
    exact ho_iret C hR h dX12_chance_16
theorem dX12_qFact_0 : decode cX12_qFact 0 = .ok (.aload_n 0, 1) := by decide +kernel
theorem dX12_qFact_1 : decode cX12_qFact 1 = .ok (.aload_n 0, 1) := by decide +kernel
theorem dX12_qFact_2 : decode cX12_qFact 2 = .ok (.getfield 204, 3) := by decide +kernel
theorem dX12_qFact_5 : decode cX12_qFact 5 = .ok (.invokevirtual 291, 3) := by decide +kernel
theorem dX12_qFact_8 : decode cX12_qFact 8 = .ok (.ifCond .eq 10, 3) := by decide +kernel
theorem dX12_qFact_11 : decode cX12_qFact 11 = .ok (.aload_n 0, 1) := by decide +kernel
theorem dX12_qFact_12 : decode cX12_qFact 12 = .ok (.bipush 13, 2) := by decide +kernel
theorem dX12_qFact_14 : decode cX12_qFact 14 = .ok (.invokevirtual 607, 3) := by decide +kernel
theorem dX12_qFact_17 : decode cX12_qFact 17 = .ok (.return_, 1) := by decide +kernel
theorem dX12_qFact_18 : decode cX12_qFact 18 = .ok (.aload_n 0, 1) := by decide +kernel
theorem dX12_qFact_19 : decode cX12_qFact 19 = .ok (.invokevirtual 364, 3) := by decide +kernel
theorem dX12_qFact_22 : decode cX12_qFact 22 = .ok (.aload_n 0, 1) := by decide +kernel
theorem dX12_qFact_23 : decode cX12_qFact 23 = .ok (.getfield 264, 3) := by decide +kernel
theorem dX12_qFact_26 : decode cX12_qFact 26 = .ok (.ifCond .eq 4, 3) := by decide +kernel
theorem dX12_qFact_29 : decode cX12_qFact 29 = .ok (.return_, 1) := by decide +kernel
theorem dX12_qFact_30 : decode cX12_qFact 30 = .ok (.aload_n 0, 1) := by decide +kernel
theorem dX12_qFact_31 : decode cX12_qFact 31 = .ok (.invokevirtual 276, 3) := by decide +kernel
theorem dX12_qFact_34 : decode cX12_qFact 34 = .ok (.istore_n 1, 1) := by decide +kernel
theorem dX12_qFact_35 : decode cX12_qFact 35 = .ok (.iload_n 1, 1) := by decide +kernel
theorem dX12_qFact_36 : decode cX12_qFact 36 = .ok (.bipush 60, 2) := by decide +kernel
theorem dX12_qFact_38 : decode cX12_qFact 38 = .ok (.if_icmp .eq 25, 3) := by decide +kernel
theorem dX12_qFact_41 : decode cX12_qFact 41 = .ok (.iload_n 1, 1) := by decide +kernel
theorem dX12_qFact_42 : decode cX12_qFact 42 = .ok (.bipush 62, 2) := by decide +kernel
theorem dX12_qFact_44 : decode cX12_qFact 44 = .ok (.if_icmp .eq 19, 3) := by decide +kernel
theorem dX12_qFact_47 : decode cX12_qFact 47 = .ok (.iload_n 1, 1) := by decide +kernel
theorem dX12_qFact_48 : decode cX12_qFact 48 = .ok (.bipush 61, 2) := by decide +kernel
theorem dX12_qFact_50 : decode cX12_qFact 50 = .ok (.if_icmp .eq 13, 3) := by decide +kernel
theorem dX12_qFact_53 : decode cX12_qFact 53 = .ok (.aload_n 0, 1) := by decide +kernel
theorem dX12_qFact_54 : decode cX12_qFact 54 = .ok (.iconst 1, 1) := by decide +kernel
theorem dX12_qFact_55 : decode cX12_qFact 55 = .ok (.aload_n 0, 1) := by decide +kernel
theorem dX12_qFact_56 : decode cX12_qFact 56 = .ok (.getfield 270, 3) := by decide +kernel
theorem dX12_qFact_59 : decode cX12_qFact 59 = .ok (.invokevirtual 294, 3) := by decide +kernel
theorem dX12_qFact_62 : decode cX12_qFact 62 = .ok (.return_, 1) := by decide +kernel
theorem dX12_qFact_63 : decode cX12_qFact 63 = .ok (.aload_n 0, 1) := by decide +kernel
theorem dX12_qFact_64 : decode cX12_qFact 64 = .ok (.dup, 1) := by decide +kernel
theorem dX12_qFact_65 : decode cX12_qFact 65 = .ok (.getfield 270, 3) := by decide +kernel
theorem dX12_qFact_68 : decode cX12_qFact 68 = .ok (.iconst 1, 1) := by decide +kernel
theorem dX12_qFact_69 : decode cX12_qFact 69 = .ok (.iadd, 1) := by decide +kernel
theorem dX12_qFact_70 : decode cX12_qFact 70 = .ok (.putfield 270, 3) := by decide +kernel
theorem dX12_qFact_73 : decode cX12_qFact 73 = .ok (.aload_n 0, 1) := by decide +kernel
theorem dX12_qFact_74 : decode cX12_qFact 74 = .ok (.invokevirtual 364, 3) := by decide +kernel
theorem dX12_qFact_77 : decode cX12_qFact 77 = .ok (.aload_n 0, 1) := by decide +kernel
theorem dX12_qFact_78 : decode cX12_qFact 78 = .ok (.iload_n 1, 1) := by decide +kernel
theorem dX12_qFact_79 : decode cX12_qFact 79 = .ok (.bipush 60, 2) := by decide +kernel
theorem dX12_qFact_81 : decode cX12_qFact 81 = .ok (.if_icmp .ne 8, 3) := by decide +kernel
theorem dX12_qFact_84 : decode cX12_qFact 84 = .ok (.bipush 7, 2) := by decide +kernel
theorem dX12_qFact_86 : decode cX12_qFact 86 = .ok (.goto 16, 3) := by decide +kernel
theorem dX12_qFact_89 : decode cX12_qFact 89 = .ok (.iload_n 1, 1) := by decide +kernel
theorem dX12_qFact_90 : decode cX12_qFact 90 = .ok (.bipush 62, 2) := by decide +kernel
theorem dX12_qFact_92 : decode cX12_qFact 92 = .ok (.if_icmp .ne 8, 3) := by decide +kernel
theorem dX12_qFact_95 : decode cX12_qFact 95 = .ok (.bipush 8, 2) := by decide +kernel
theorem dX12_qFact_97 : decode cX12_qFact 97 = .ok (.goto 5, 3) := by decide +kernel
theorem dX12_qFact_100 : decode cX12_qFact 100 = .ok (.bipush 9, 2) := by decide +kernel
theorem dX12_qFact_102 : decode cX12_qFact 102 = .ok (.invokevirtual 607, 3) := by decide +kernel
theorem dX12_qFact_105 : decode cX12_qFact 105 = .ok (.return_, 1) := by decide +kernel
def f_X12_qFact_102 (z1 : Int32) (S : Hp) : Option Hp :=
  ob (f_X12_qCode z1 S) (fun S1 => some S1)
set_option maxHeartbeats 4000000 in
set_option maxRecDepth 100000 in
theorem w_X12_qFact_102 {p : Program} {l : Launch} {e : Env} {s : State} {m : MethodId} {args : Array Value} {below : List Frame} {meth : Method} {c : Code} {E : Ev} {S0 : Hp} {r : Hp} (C : ho_I p s m args meth c RX12 cX12_qFact 2 none) :
    ∀ (z1 : Int32) (S : Hp), f_X12_qFact_102 z1 S = some r → ho_G p l e s m args below meth c yM E S0 7 2 (none, r) 102 [] [.int z1, .ref (E.2.1 0)] S := by
  intro z1 S h H locs ls hR hl
  unfold f_X12_qFact_102 at h
  obtain ⟨S1, h1, h⟩ := ob_ok h
  refine hr_Vv (S' := S1) (As := [.int z1]) (rest := []) C cf12 (c_X12_qCode l E z1 _ _ h1) yv_X12_qCode lk_RX12_607 rfl aM_0 rfl rfl hl.1 (Nat.le_of_ble_eq_true rfl) (by decide) (by decide) hR (ho_A hR) dX12_qFact_102 (fun H locs hR => ?_)
  exact ho_vret C hR h dX12_qFact_105
def f_X12_qFact_63 (x1 : Int32) (S : Hp) : Option Hp :=
  le1 (ho_sI S 0 2 ((S.1 0 2) + (1 : Int32))) (fun S1 => ob (f_X12_qSums S1) (fun S2 => if x1 = (60 : Int32) then f_X12_qFact_102 (7 : Int32) S2 else if x1 = (62 : Int32) then f_X12_qFact_102 (8 : Int32) S2 else f_X12_qFact_102 (9 : Int32) S2))
set_option maxHeartbeats 4000000 in
set_option maxRecDepth 100000 in
theorem w_X12_qFact_63 {p : Program} {l : Launch} {e : Env} {s : State} {m : MethodId} {args : Array Value} {below : List Frame} {meth : Method} {c : Code} {E : Ev} {S0 : Hp} {r : Hp} (C : ho_I p s m args meth c RX12 cX12_qFact 2 none) :
    ∀ (x1 : Int32) (S : Hp), f_X12_qFact_63 x1 S = some r → ho_G p l e s m args below meth c yM E S0 7 2 (none, r) 63 [(0, .ref (E.2.1 0)), (1, .int x1)] [] S := by
  intro x1 S h H locs ls hR hl
  unfold f_X12_qFact_63 at h
  refine lv_aload_n C.1 C.2.1 dX12_qFact_63 rfl (lv_at hl 0 rfl) ?_
  refine lv_dup C.1 C.2.1 dX12_qFact_64 rfl ?_
  refine ho_getI C cf12 fM_270 hR aM_0 dX12_qFact_65 ?_
  refine lv_iconst (v := (1 : Int32)) C.1 C.2.1 dX12_qFact_68 (by decide) ?_
  refine lv_iadd C.1 C.2.1 dX12_qFact_69 ?_
  obtain ⟨S1, e1, h⟩ := le1_ok h
  refine hr_putI C cf12 fM_270 hR aM_0 e1 dX12_qFact_70 (fun H locs hR => ?_)
  refine lv_aload_n C.1 C.2.1 dX12_qFact_73 rfl (lv_at hl 0 rfl) ?_
  obtain ⟨S2, h2, h⟩ := ob_ok h
  refine hr_Vv (S' := S2) (As := []) (rest := []) C cf12 (c_X12_qSums l E _ _ h2) yv_X12_qSums lk_RX12_364 rfl aM_0 rfl rfl hl.1 (Nat.le_of_ble_eq_true rfl) (by decide) (by decide) hR (ho_A hR) dX12_qFact_74 (fun H locs hR => ?_)
  refine lv_aload_n C.1 C.2.1 dX12_qFact_77 rfl (lv_at hl 0 rfl) ?_
  refine lv_iload_n C.1 C.2.1 dX12_qFact_78 rfl (lv_at hl 1 rfl) ?_
  refine lv_bipush (v := (60 : Int32)) C.1 C.2.1 dX12_qFact_79 (by decide) ?_
  refine lv_icmp_ne (tgt := 89) C.1 C.2.1 dX12_qFact_81 (by decide) (fun hc => ?_) (fun hc => ?_)
  · replace h := if_f h hc
    refine lv_iload_n C.1 C.2.1 dX12_qFact_89 rfl (lv_at hl 1 rfl) ?_
    refine lv_bipush (v := (62 : Int32)) C.1 C.2.1 dX12_qFact_90 (by decide) ?_
    refine lv_icmp_ne (tgt := 100) C.1 C.2.1 dX12_qFact_92 (by decide) (fun hc => ?_) (fun hc => ?_)
    · replace h := if_f h hc
      refine lv_bipush (v := (9 : Int32)) C.1 C.2.1 dX12_qFact_100 (by decide) ?_
      exact w_X12_qFact_102 C (9 : Int32) S2 h _ _ _ hR (lv_sub hl [] rfl)
    · replace h := if_t h hc
      refine lv_bipush (v := (8 : Int32)) C.1 C.2.1 dX12_qFact_95 (by decide) ?_
      refine lv_goto (tgt := 102) C.1 C.2.1 dX12_qFact_97 (by decide) ?_
      exact w_X12_qFact_102 C (8 : Int32) S2 h _ _ _ hR (lv_sub hl [] rfl)
  · replace h := if_t h hc
    refine lv_bipush (v := (7 : Int32)) C.1 C.2.1 dX12_qFact_84 (by decide) ?_
    refine lv_goto (tgt := 102) C.1 C.2.1 dX12_qFact_86 (by decide) ?_
    exact w_X12_qFact_102 C (7 : Int32) S2 h _ _ _ hR (lv_sub hl [] rfl)
def f_X12_qFact (S : Hp) : Option Hp :=
  ob2 (f_X12_takes 85 3 S) (fun r1 S1 => if r1 = 0 then ob (f_X12_qSums S1) (fun S2 => if (S2.1 0 5) = 0 then ob2 (f_X12_look0 S2) (fun r3 S3 => if r3 = (60 : Int32) then f_X12_qFact_63 r3 S3 else if r3 = (62 : Int32) then f_X12_qFact_63 r3 S3 else if r3 = (61 : Int32) then f_X12_qFact_63 r3 S3 else ob (f_X12_fail (1 : Int32) (S3.1 0 2) S3) (fun S4 => some S4)) else some S2) else ob (f_X12_qCode (13 : Int32) S1) (fun S5 => some S5))
set_option maxHeartbeats 4000000 in
set_option maxRecDepth 100000 in
theorem c_X12_qFact (l : Launch) (E : Ev) (S : Hp) (r : Hp) (h : f_X12_qFact S = some r) : ho_M l yM E yX12_qFact cX12_qFact 2 none 7 [.ref (E.2.1 0)] S (none, r) := by
  refine ho_in (by decide) (Nat.le_of_ble_eq_true rfl) ?_
  intro p e s m args below meth c C hR ls hl
  have C : ho_I p s m args meth c RX12 cX12_qFact 2 none := C
  have hl : lv_has ls 2 [(0, .ref (E.2.1 0))] := hl
  unfold f_X12_qFact at h
  refine lv_aload_n C.1 C.2.1 dX12_qFact_0 rfl (lv_at hl 0 rfl) ?_
  refine lv_aload_n C.1 C.2.1 dX12_qFact_1 rfl (lv_at hl 0 rfl) ?_
  refine ho_getR (a' := 85) C cf12 fM_204 hR aM_0 rfl dX12_qFact_2 ?_
  obtain ⟨r1, S1, h1, h⟩ := ob2_ok h
  refine hr_Vi (v := r1) (S' := S1) (As := [.ref (E.2.1 85)]) (rest := []) C cf12 (c_X12_takes l E 85 3 aM_85 _ _ h1) yv_X12_takes lk_RX12_291 rfl aM_0 rfl rfl hl.1 (Nat.le_of_ble_eq_true rfl) (by decide) (by decide) hR (ho_A hR) dX12_qFact_5 (fun H locs hR => ?_)
  refine lv_if_eq (tgt := 18) C.1 C.2.1 dX12_qFact_8 (by decide) (fun hc => ?_) (fun hc => ?_)
  · replace h := if_t h hc
    refine lv_aload_n C.1 C.2.1 dX12_qFact_18 rfl (lv_at hl 0 rfl) ?_
    obtain ⟨S2, h2, h⟩ := ob_ok h
    refine hr_Vv (S' := S2) (As := []) (rest := []) C cf12 (c_X12_qSums l E _ _ h2) yv_X12_qSums lk_RX12_364 rfl aM_0 rfl rfl hl.1 (Nat.le_of_ble_eq_true rfl) (by decide) (by decide) hR (ho_A hR) dX12_qFact_19 (fun H locs hR => ?_)
    refine lv_aload_n C.1 C.2.1 dX12_qFact_22 rfl (lv_at hl 0 rfl) ?_
    refine ho_getI C cf12 fM_264 hR aM_0 dX12_qFact_23 ?_
    refine lv_if_eq (tgt := 30) C.1 C.2.1 dX12_qFact_26 (by decide) (fun hc => ?_) (fun hc => ?_)
    · replace h := if_t h hc
      refine lv_aload_n C.1 C.2.1 dX12_qFact_30 rfl (lv_at hl 0 rfl) ?_
      obtain ⟨r3, S3, h3, h⟩ := ob2_ok h
      refine hr_Vi (v := r3) (S' := S3) (As := []) (rest := []) C cf12 (c_X12_look0 l E _ _ h3) yv_X12_look0 lk_RX12_276 rfl aM_0 rfl rfl hl.1 (Nat.le_of_ble_eq_true rfl) (by decide) (by decide) hR (ho_A hR) dX12_qFact_31 (fun H locs hR => ?_)
      refine lv_istore_n (lv' := [(1, .int r3), (0, .ref (E.2.1 0))]) C.1 C.2.1 dX12_qFact_34 rfl hl (by decide) rfl (fun ls hl => ?_)
      refine lv_iload_n C.1 C.2.1 dX12_qFact_35 rfl (lv_at hl 0 rfl) ?_
      refine lv_bipush (v := (60 : Int32)) C.1 C.2.1 dX12_qFact_36 (by decide) ?_
      refine lv_icmp_eq (tgt := 63) C.1 C.2.1 dX12_qFact_38 (by decide) (fun hc => ?_) (fun hc => ?_)
      · replace h := if_t h hc
        exact w_X12_qFact_63 C r3 S3 h _ _ _ hR (lv_sub hl [1, 0] rfl)
      · replace h := if_f h hc
        refine lv_iload_n C.1 C.2.1 dX12_qFact_41 rfl (lv_at hl 0 rfl) ?_
        refine lv_bipush (v := (62 : Int32)) C.1 C.2.1 dX12_qFact_42 (by decide) ?_
        refine lv_icmp_eq (tgt := 63) C.1 C.2.1 dX12_qFact_44 (by decide) (fun hc => ?_) (fun hc => ?_)
        · replace h := if_t h hc
          exact w_X12_qFact_63 C r3 S3 h _ _ _ hR (lv_sub hl [1, 0] rfl)
        · replace h := if_f h hc
          refine lv_iload_n C.1 C.2.1 dX12_qFact_47 rfl (lv_at hl 0 rfl) ?_
          refine lv_bipush (v := (61 : Int32)) C.1 C.2.1 dX12_qFact_48 (by decide) ?_
          refine lv_icmp_eq (tgt := 63) C.1 C.2.1 dX12_qFact_50 (by decide) (fun hc => ?_) (fun hc => ?_)
          · replace h := if_t h hc
            exact w_X12_qFact_63 C r3 S3 h _ _ _ hR (lv_sub hl [1, 0] rfl)
          · replace h := if_f h hc
            refine lv_aload_n C.1 C.2.1 dX12_qFact_53 rfl (lv_at hl 1 rfl) ?_
            refine lv_iconst (v := (1 : Int32)) C.1 C.2.1 dX12_qFact_54 (by decide) ?_
            refine lv_aload_n C.1 C.2.1 dX12_qFact_55 rfl (lv_at hl 1 rfl) ?_
            refine ho_getI C cf12 fM_270 hR aM_0 dX12_qFact_56 ?_
            obtain ⟨S4, h4, h⟩ := ob_ok h
            refine hr_Vv (S' := S4) (As := [.int (1 : Int32), .int (S3.1 0 2)]) (rest := []) C cf12 (c_X12_fail l E (1 : Int32) (S3.1 0 2) _ _ h4) yv_X12_fail lk_RX12_294 rfl aM_0 rfl rfl hl.1 (Nat.le_of_ble_eq_true rfl) (by decide) (by decide) hR (ho_A hR) dX12_qFact_59 (fun H locs hR => ?_)
            exact ho_vret C hR h dX12_qFact_62
    · replace h := if_f h hc
      exact ho_vret C hR h dX12_qFact_29
  · replace h := if_f h hc
    refine lv_aload_n C.1 C.2.1 dX12_qFact_11 rfl (lv_at hl 0 rfl) ?_
    refine lv_bipush (v := (13 : Int32)) C.1 C.2.1 dX12_qFact_12 (by decide) ?_
    obtain ⟨S5, h5, h⟩ := ob_ok h
    refine hr_Vv (S' := S5) (As := [.int (13 : Int32)]) (rest := []) C cf12 (c_X12_qCode l E (13 : Int32) _ _ h5) yv_X12_qCode lk_RX12_607 rfl aM_0 rfl rfl hl.1 (Nat.le_of_ble_eq_true rfl) (by decide) (by decide) hR (ho_A hR) dX12_qFact_14 (fun H locs hR => ?_)
    exact ho_vret C hR h dX12_qFact_17
theorem dX12_qHasSquare_0 : decode cX12_qHasSquare 0 = .ok (.iconst 0, 1) := by decide +kernel
theorem dX12_qHasSquare_1 : decode cX12_qHasSquare 1 = .ok (.istore_n 1, 1) := by decide +kernel
theorem dX12_qHasSquare_2 : decode cX12_qHasSquare 2 = .ok (.iload_n 1, 1) := by decide +kernel
theorem dX12_qHasSquare_3 : decode cX12_qHasSquare 3 = .ok (.aload_n 0, 1) := by decide +kernel
theorem dX12_qHasSquare_4 : decode cX12_qHasSquare 4 = .ok (.getfield 355, 3) := by decide +kernel
theorem dX12_qHasSquare_7 : decode cX12_qHasSquare 7 = .ok (.if_icmp .ge 22, 3) := by decide +kernel
theorem dX12_qHasSquare_10 : decode cX12_qHasSquare 10 = .ok (.aload_n 0, 1) := by decide +kernel
theorem dX12_qHasSquare_11 : decode cX12_qHasSquare 11 = .ok (.getfield 252, 3) := by decide +kernel
theorem dX12_qHasSquare_14 : decode cX12_qHasSquare 14 = .ok (.iload_n 1, 1) := by decide +kernel
theorem dX12_qHasSquare_15 : decode cX12_qHasSquare 15 = .ok (.iaload, 1) := by decide +kernel
theorem dX12_qHasSquare_16 : decode cX12_qHasSquare 16 = .ok (.bipush 25, 2) := by decide +kernel
theorem dX12_qHasSquare_18 : decode cX12_qHasSquare 18 = .ok (.if_icmp .ne 5, 3) := by decide +kernel
theorem dX12_qHasSquare_21 : decode cX12_qHasSquare 21 = .ok (.iconst 1, 1) := by decide +kernel
theorem dX12_qHasSquare_22 : decode cX12_qHasSquare 22 = .ok (.ireturn, 1) := by decide +kernel
theorem dX12_qHasSquare_23 : decode cX12_qHasSquare 23 = .ok (.iinc 1 1, 3) := by decide +kernel
theorem dX12_qHasSquare_26 : decode cX12_qHasSquare 26 = .ok (.goto (-24), 3) := by decide +kernel
theorem dX12_qHasSquare_29 : decode cX12_qHasSquare 29 = .ok (.iconst 0, 1) := by decide +kernel
theorem dX12_qHasSquare_30 : decode cX12_qHasSquare 30 = .ok (.ireturn, 1) := by decide +kernel
def f_X12_qHasSquare_2 : Nat → Int32 → Hp → Option (Int32 × Hp)
  | 0, _, _ => none
  | k + 1, x1, S => if (S.1 0 102) ≤ x1 then some ((0 : Int32), S) else ldI S 102 1700 x1 (fun v1 => if v1 = (25 : Int32) then some ((1 : Int32), S) else le1 (x1 + (1 : Int32)) (fun v2 => f_X12_qHasSquare_2 k v2 S))
set_option maxHeartbeats 4000000 in
set_option maxRecDepth 100000 in
theorem w_X12_qHasSquare_2 {p : Program} {l : Launch} {e : Env} {s : State} {m : MethodId} {args : Array Value} {below : List Frame} {meth : Method} {c : Code} {E : Ev} {S0 : Hp} {r : (Int32 × Hp)} (C : ho_I p s m args meth c RX12 cX12_qHasSquare 2 (some .boolean)) :
    ∀ (k : Nat) (x1 : Int32) (S : Hp), f_X12_qHasSquare_2 k x1 S = some r → ho_G p l e s m args below meth c yM E S0 0 2 (some (.int r.1), r.2) 2 [(0, .ref (E.2.1 0)), (1, .int x1)] [] S := by
  intro k
  induction k with
  | zero =>
    intro x1 S h
    exact absurd (show (none : Option (Int32 × Hp)) = some r from h) (by simp)
  | succ k ih =>
    intro x1 S h H locs ls hR hl
    rw [f_X12_qHasSquare_2] at h
    refine lv_iload_n C.1 C.2.1 dX12_qHasSquare_2 rfl (lv_at hl 1 rfl) ?_
    refine lv_aload_n C.1 C.2.1 dX12_qHasSquare_3 rfl (lv_at hl 0 rfl) ?_
    refine ho_getI C cf12 fM_355 hR aM_0 dX12_qHasSquare_4 ?_
    refine lv_icmp_ge (tgt := 29) C.1 C.2.1 dX12_qHasSquare_7 (by decide) (fun hc => ?_) (fun hc => ?_)
    · replace h := if_t h hc
      refine lv_iconst (v := (0 : Int32)) C.1 C.2.1 dX12_qHasSquare_29 (by decide) ?_
      exact ho_zret C hR (Or.inl rfl) h dX12_qHasSquare_30
    · replace h := if_f h hc
      refine lv_aload_n C.1 C.2.1 dX12_qHasSquare_10 rfl (lv_at hl 0 rfl) ?_
      refine ho_getR (a' := 102) C cf12 fM_252 hR aM_0 rfl dX12_qHasSquare_11 ?_
      refine lv_iload_n C.1 C.2.1 dX12_qHasSquare_14 rfl (lv_at hl 1 rfl) ?_
      obtain ⟨v1, e1, hi1, h⟩ := ldI_ok h
      refine hr_ild C hR aM_102 hi1 e1 dX12_qHasSquare_15 ?_
      refine lv_bipush (v := (25 : Int32)) C.1 C.2.1 dX12_qHasSquare_16 (by decide) ?_
      refine lv_icmp_ne (tgt := 23) C.1 C.2.1 dX12_qHasSquare_18 (by decide) (fun hc => ?_) (fun hc => ?_)
      · replace h := if_f h hc
        obtain ⟨v2, e2, h⟩ := le1_ok h
        refine lv_iinc (v := v2) (lv' := [(1, .int v2), (0, .ref (E.2.1 0))]) C.1 C.2.1 dX12_qHasSquare_23 hl (k := 1) rfl (by rw [e2]; rfl) (by decide) rfl (fun ls hl => ?_)
        refine lv_goto (tgt := 2) C.1 C.2.1 dX12_qHasSquare_26 (by decide) ?_
        exact ih v2 S h _ _ _ hR (lv_sub hl [1, 0] rfl)
      · replace h := if_t h hc
        refine lv_iconst (v := (1 : Int32)) C.1 C.2.1 dX12_qHasSquare_21 (by decide) ?_
        exact ho_zret C hR (Or.inr rfl) h dX12_qHasSquare_22
def f_X12_qHasSquare (S : Hp) : Option (Int32 × Hp) :=
  f_X12_qHasSquare_2 5000 (0 : Int32) S
set_option maxHeartbeats 4000000 in
set_option maxRecDepth 100000 in
theorem c_X12_qHasSquare (l : Launch) (E : Ev) (S : Hp) (r : (Int32 × Hp)) (h : f_X12_qHasSquare S = some r) : ho_M l yM E yX12_qHasSquare cX12_qHasSquare 2 (some .boolean) 0 [.ref (E.2.1 0)] S (some (.int r.1), r.2) := by
  refine ho_in (by decide) (Nat.le_of_ble_eq_true rfl) ?_
  intro p e s m args below meth c C hR ls hl
  have C : ho_I p s m args meth c RX12 cX12_qHasSquare 2 (some .boolean) := C
  have hl : lv_has ls 2 [(0, .ref (E.2.1 0))] := hl
  unfold f_X12_qHasSquare at h
  refine lv_iconst (v := (0 : Int32)) C.1 C.2.1 dX12_qHasSquare_0 (by decide) ?_
  refine lv_istore_n (lv' := [(1, .int (0 : Int32)), (0, .ref (E.2.1 0))]) C.1 C.2.1 dX12_qHasSquare_1 rfl hl (by decide) rfl (fun ls hl => ?_)
  exact w_X12_qHasSquare_2 C 5000 (0 : Int32) S h _ _ _ hR (lv_sub hl [1, 0] rfl)
