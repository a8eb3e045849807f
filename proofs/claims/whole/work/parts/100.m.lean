theorem dX12_isIn_0 : decode cX12_isIn 0 = .ok (.lload_n 0, 1) := by decide +kernel
theorem dX12_isIn_1 : decode cX12_isIn 1 = .ok (.lload_n 2, 1) := by decide +kernel
theorem dX12_isIn_2 : decode cX12_isIn 2 = .ok (.lcmp, 1) := by decide +kernel
theorem dX12_isIn_3 : decode cX12_isIn 3 = .ok (.ifCond .lt 14, 3) := by decide +kernel
theorem dX12_isIn_6 : decode cX12_isIn 6 = .ok (.lload_n 0, 1) := by decide +kernel
theorem dX12_isIn_7 : decode cX12_isIn 7 = .ok (.lload 4, 2) := by decide +kernel
theorem dX12_isIn_9 : decode cX12_isIn 9 = .ok (.lcmp, 1) := by decide +kernel
theorem dX12_isIn_10 : decode cX12_isIn 10 = .ok (.ifCond .gt 7, 3) := by decide +kernel
theorem dX12_isIn_13 : decode cX12_isIn 13 = .ok (.iconst 1, 1) := by decide +kernel
theorem dX12_isIn_14 : decode cX12_isIn 14 = .ok (.goto 4, 3) := by decide +kernel
theorem dX12_isIn_17 : decode cX12_isIn 17 = .ok (.iconst 0, 1) := by decide +kernel
theorem dX12_isIn_18 : decode cX12_isIn 18 = .ok (.ireturn, 1) := by decide +kernel
def f_X12_isIn (x0 : Int64) (x2 : Int64) (x4 : Int64) (S : Hp) : Option (Int32 × Hp) :=
  if (lg_cmp x0 x2) < 0 then some ((0 : Int32), S) else if 0 < (lg_cmp x0 x4) then some ((0 : Int32), S) else some ((1 : Int32), S)
set_option maxHeartbeats 4000000 in
set_option maxRecDepth 100000 in
theorem c_X12_isIn (l : Launch) (E : Ev) (x0 : Int64) (x2 : Int64) (x4 : Int64) (S : Hp) (r : (Int32 × Hp)) (h : f_X12_isIn x0 x2 x4 S = some r) : ho_M l yM E yX12_isIn cX12_isIn 6 (some .boolean) 0 [.long x0, .long x2, .long x4] S (some (.int r.1), r.2) := by
  refine ho_in (by decide) (Nat.le_of_ble_eq_true rfl) ?_
  intro p e s m args below meth c C hR ls hl
  have C : ho_I p s m args meth c RX12 cX12_isIn 6 (some .boolean) := C
  have hl : lv_has ls 6 [(0, .long x0), (2, .long x2), (4, .long x4)] := hl
  unfold f_X12_isIn at h
  refine lv_lload_n C.1 C.2.1 dX12_isIn_0 rfl (lv_at hl 0 rfl) ?_
  refine lv_lload_n C.1 C.2.1 dX12_isIn_1 rfl (lv_at hl 1 rfl) ?_
  refine W.lcmp C.1 C.2.1 dX12_isIn_2 ?_
  refine lv_if_lt (tgt := 17) C.1 C.2.1 dX12_isIn_3 (by decide) (fun hc => ?_) (fun hc => ?_)
  · replace h := if_t h hc
    refine lv_iconst (v := (0 : Int32)) C.1 C.2.1 dX12_isIn_17 (by decide) ?_
    exact ho_zret C hR (Or.inl rfl) h dX12_isIn_18
  · replace h := if_f h hc
    refine lv_lload_n C.1 C.2.1 dX12_isIn_6 rfl (lv_at hl 0 rfl) ?_
    refine lv_lload C.1 C.2.1 dX12_isIn_7 (lv_at hl 2 rfl) ?_
    refine W.lcmp C.1 C.2.1 dX12_isIn_9 ?_
    refine lv_if_gt (tgt := 17) C.1 C.2.1 dX12_isIn_10 (by decide) (fun hc => ?_) (fun hc => ?_)
    · replace h := if_t h hc
      refine lv_iconst (v := (0 : Int32)) C.1 C.2.1 dX12_isIn_17 (by decide) ?_
      exact ho_zret C hR (Or.inl rfl) h dX12_isIn_18
    · replace h := if_f h hc
      refine lv_iconst (v := (1 : Int32)) C.1 C.2.1 dX12_isIn_13 (by decide) ?_
      refine lv_goto (tgt := 18) C.1 C.2.1 dX12_isIn_14 (by decide) ?_
      exact ho_zret C hR (Or.inr rfl) h dX12_isIn_18
theorem dX12_feed_0 : decode cX12_feed 0 = .ok (.aload_n 0, 1) := by decide +kernel
theorem dX12_feed_1 : decode cX12_feed 1 = .ok (.getfield 261, 3) := by decide +kernel
theorem dX12_feed_4 : decode cX12_feed 4 = .ok (.bipush 20, 2) := by decide +kernel
theorem dX12_feed_6 : decode cX12_feed 6 = .ok (.iadd, 1) := by decide +kernel
theorem dX12_feed_7 : decode cX12_feed 7 = .ok (.sipush 1600, 3) := by decide +kernel
theorem dX12_feed_10 : decode cX12_feed 10 = .ok (.if_icmp .le 15, 3) := by decide +kernel
theorem dX12_feed_13 : decode cX12_feed 13 = .ok (.aload_n 0, 1) := by decide +kernel
theorem dX12_feed_14 : decode cX12_feed 14 = .ok (.getfield 17, 3) := by decide +kernel
theorem dX12_feed_17 : decode cX12_feed 17 = .ok (.iconst 0, 1) := by decide +kernel
theorem dX12_feed_18 : decode cX12_feed 18 = .ok (.dup2, 1) := by decide +kernel
theorem dX12_feed_19 : decode cX12_feed 19 = .ok (.iaload, 1) := by decide +kernel
theorem dX12_feed_20 : decode cX12_feed 20 = .ok (.iconst 1, 1) := by decide +kernel
theorem dX12_feed_21 : decode cX12_feed 21 = .ok (.iadd, 1) := by decide +kernel
theorem dX12_feed_22 : decode cX12_feed 22 = .ok (.iastore, 1) := by decide +kernel
theorem dX12_feed_23 : decode cX12_feed 23 = .ok (.iconst (-1), 1) := by decide +kernel
theorem dX12_feed_24 : decode cX12_feed 24 = .ok (.ireturn, 1) := by decide +kernel
theorem dX12_feed_25 : decode cX12_feed 25 = .ok (.iconst 0, 1) := by decide +kernel
theorem dX12_feed_26 : decode cX12_feed 26 = .ok (.istore 6, 2) := by decide +kernel
theorem dX12_feed_28 : decode cX12_feed 28 = .ok (.iload 6, 2) := by decide +kernel
theorem dX12_feed_30 : decode cX12_feed 30 = .ok (.bipush 20, 2) := by decide +kernel
theorem dX12_feed_32 : decode cX12_feed 32 = .ok (.if_icmp .ge 92, 3) := by decide +kernel
theorem dX12_feed_35 : decode cX12_feed 35 = .ok (.iload 6, 2) := by decide +kernel
theorem dX12_feed_37 : decode cX12_feed 37 = .ok (.iconst 4, 1) := by decide +kernel
theorem dX12_feed_38 : decode cX12_feed 38 = .ok (.if_icmp .ge 7, 3) := by decide +kernel
theorem dX12_feed_41 : decode cX12_feed 41 = .ok (.iload_n 1, 1) := by decide +kernel
theorem dX12_feed_42 : decode cX12_feed 42 = .ok (.goto 39, 3) := by decide +kernel
theorem dX12_feed_45 : decode cX12_feed 45 = .ok (.iload 6, 2) := by decide +kernel
theorem dX12_feed_47 : decode cX12_feed 47 = .ok (.bipush 8, 2) := by decide +kernel
theorem dX12_feed_49 : decode cX12_feed 49 = .ok (.if_icmp .ge 7, 3) := by decide +kernel
theorem dX12_feed_52 : decode cX12_feed 52 = .ok (.iload_n 2, 1) := by decide +kernel
theorem dX12_feed_53 : decode cX12_feed 53 = .ok (.goto 28, 3) := by decide +kernel
theorem dX12_feed_56 : decode cX12_feed 56 = .ok (.iload 6, 2) := by decide +kernel
theorem dX12_feed_58 : decode cX12_feed 58 = .ok (.bipush 12, 2) := by decide +kernel
theorem dX12_feed_60 : decode cX12_feed 60 = .ok (.if_icmp .ge 7, 3) := by decide +kernel
theorem dX12_feed_63 : decode cX12_feed 63 = .ok (.iload_n 3, 1) := by decide +kernel
theorem dX12_feed_64 : decode cX12_feed 64 = .ok (.goto 17, 3) := by decide +kernel
theorem dX12_feed_67 : decode cX12_feed 67 = .ok (.iload 6, 2) := by decide +kernel
theorem dX12_feed_69 : decode cX12_feed 69 = .ok (.bipush 16, 2) := by decide +kernel
theorem dX12_feed_71 : decode cX12_feed 71 = .ok (.if_icmp .ge 8, 3) := by decide +kernel
theorem dX12_feed_74 : decode cX12_feed 74 = .ok (.iload 4, 2) := by decide +kernel
theorem dX12_feed_76 : decode cX12_feed 76 = .ok (.goto 5, 3) := by decide +kernel
theorem dX12_feed_79 : decode cX12_feed 79 = .ok (.iload 5, 2) := by decide +kernel
theorem dX12_feed_81 : decode cX12_feed 81 = .ok (.istore 7, 2) := by decide +kernel
theorem dX12_feed_83 : decode cX12_feed 83 = .ok (.aload_n 0, 1) := by decide +kernel
theorem dX12_feed_84 : decode cX12_feed 84 = .ok (.getfield 7, 3) := by decide +kernel
theorem dX12_feed_87 : decode cX12_feed 87 = .ok (.aload_n 0, 1) := by decide +kernel
theorem dX12_feed_88 : decode cX12_feed 88 = .ok (.getfield 261, 3) := by decide +kernel
theorem dX12_feed_91 : decode cX12_feed 91 = .ok (.iload 7, 2) := by decide +kernel
theorem dX12_feed_93 : decode cX12_feed 93 = .ok (.bipush 8, 2) := by decide +kernel
theorem dX12_feed_95 : decode cX12_feed 95 = .ok (.iconst 3, 1) := by decide +kernel
theorem dX12_feed_96 : decode cX12_feed 96 = .ok (.iload 6, 2) := by decide +kernel
theorem dX12_feed_98 : decode cX12_feed 98 = .ok (.iconst 4, 1) := by decide +kernel
theorem dX12_feed_99 : decode cX12_feed 99 = .ok (.irem, 1) := by decide +kernel
theorem dX12_feed_100 : decode cX12_feed 100 = .ok (.isub, 1) := by decide +kernel
theorem dX12_feed_101 : decode cX12_feed 101 = .ok (.imul, 1) := by decide +kernel
theorem dX12_feed_102 : decode cX12_feed 102 = .ok (.ishr, 1) := by decide +kernel
theorem dX12_feed_103 : decode cX12_feed 103 = .ok (.sipush 255, 3) := by decide +kernel
theorem dX12_feed_106 : decode cX12_feed 106 = .ok (.iand, 1) := by decide +kernel
theorem dX12_feed_107 : decode cX12_feed 107 = .ok (.iastore, 1) := by decide +kernel
theorem dX12_feed_108 : decode cX12_feed 108 = .ok (.aload_n 0, 1) := by decide +kernel
theorem dX12_feed_109 : decode cX12_feed 109 = .ok (.dup, 1) := by decide +kernel
theorem dX12_feed_110 : decode cX12_feed 110 = .ok (.getfield 261, 3) := by decide +kernel
theorem dX12_feed_113 : decode cX12_feed 113 = .ok (.iconst 1, 1) := by decide +kernel
theorem dX12_feed_114 : decode cX12_feed 114 = .ok (.iadd, 1) := by decide +kernel
theorem dX12_feed_115 : decode cX12_feed 115 = .ok (.putfield 261, 3) := by decide +kernel
theorem dX12_feed_118 : decode cX12_feed 118 = .ok (.iinc 6 1, 3) := by decide +kernel
theorem dX12_feed_121 : decode cX12_feed 121 = .ok (.goto (-93), 3) := by decide +kernel
theorem dX12_feed_124 : decode cX12_feed 124 = .ok (.aload_n 0, 1) := by decide +kernel
theorem dX12_feed_125 : decode cX12_feed 125 = .ok (.getfield 261, 3) := by decide +kernel
theorem dX12_feed_128 : decode cX12_feed 128 = .ok (.ireturn, 1) := by decide +kernel
def f_X12_feed_81 (K28 : Int32 → Int32 → Int32 → Int32 → Int32 → Int32 → Hp → Option (Int32 × Hp)) (x1 : Int32) (x2 : Int32) (x3 : Int32) (x4 : Int32) (x5 : Int32) (x6 : Int32) (z0 : Int32) (S : Hp) : Option (Int32 × Hp) :=
  stI S 1 1600 (S.1 0 1) ((z0 >>> (((8 : Int32) * ((3 : Int32) - (x6 - x6 / (4 : Int32) * (4 : Int32)))) &&& 31)) &&& (255 : Int32)) (fun S1 => le1 (ho_sI S1 0 1 ((S1.1 0 1) + (1 : Int32))) (fun S2 => le1 (x6 + (1 : Int32)) (fun v3 => K28 x1 x2 x3 x4 x5 v3 S2)))
set_option maxHeartbeats 4000000 in
set_option maxRecDepth 100000 in
theorem w_X12_feed_81 {p : Program} {l : Launch} {e : Env} {s : State} {m : MethodId} {args : Array Value} {below : List Frame} {meth : Method} {c : Code} {E : Ev} {S0 : Hp} {r : (Int32 × Hp)} (C : ho_I p s m args meth c RX12 cX12_feed 8 (some .int)) (K28 : Int32 → Int32 → Int32 → Int32 → Int32 → Int32 → Hp → Option (Int32 × Hp)) (hK28 : ∀ (y1 : Int32) (y2 : Int32) (y3 : Int32) (y4 : Int32) (y5 : Int32) (y6 : Int32) (S : Hp), K28 y1 y2 y3 y4 y5 y6 S = some r → ho_G p l e s m args below meth c yM E S0 0 8 (some (.int r.1), r.2) 28 [(0, .ref (E.2.1 0)), (1, .int y1), (2, .int y2), (3, .int y3), (4, .int y4), (5, .int y5), (6, .int y6)] [] S) :
    ∀ (x1 : Int32) (x2 : Int32) (x3 : Int32) (x4 : Int32) (x5 : Int32) (x6 : Int32) (z0 : Int32) (S : Hp), f_X12_feed_81 K28 x1 x2 x3 x4 x5 x6 z0 S = some r → ho_G p l e s m args below meth c yM E S0 0 8 (some (.int r.1), r.2) 81 [(0, .ref (E.2.1 0)), (1, .int x1), (2, .int x2), (3, .int x3), (4, .int x4), (5, .int x5), (6, .int x6)] [.int z0] S := by
  intro x1 x2 x3 x4 x5 x6 z0 S h H locs ls hR hl
  unfold f_X12_feed_81 at h
  refine lv_istore (lv' := [(7, .int z0), (0, .ref (E.2.1 0)), (1, .int x1), (2, .int x2), (3, .int x3), (4, .int x4), (5, .int x5), (6, .int x6)]) C.1 C.2.1 dX12_feed_81 hl (by decide) rfl (fun ls hl => ?_)
  refine lv_aload_n C.1 C.2.1 dX12_feed_83 rfl (lv_at hl 1 rfl) ?_
  refine ho_getR (a' := 1) C cf12 fM_7 hR aM_0 rfl dX12_feed_84 ?_
  refine lv_aload_n C.1 C.2.1 dX12_feed_87 rfl (lv_at hl 1 rfl) ?_
  refine ho_getI C cf12 fM_261 hR aM_0 dX12_feed_88 ?_
  refine lv_iload C.1 C.2.1 dX12_feed_91 (lv_at hl 0 rfl) ?_
  refine lv_bipush (v := (8 : Int32)) C.1 C.2.1 dX12_feed_93 (by decide) ?_
  refine lv_iconst (v := (3 : Int32)) C.1 C.2.1 dX12_feed_95 (by decide) ?_
  refine lv_iload C.1 C.2.1 dX12_feed_96 (lv_at hl 7 rfl) ?_
  refine lv_iconst (v := (4 : Int32)) C.1 C.2.1 dX12_feed_98 (by decide) ?_
  refine lv_irem C.1 C.2.1 dX12_feed_99 (by decide) ?_
  refine lv_isub C.1 C.2.1 dX12_feed_100 ?_
  refine lv_imul C.1 C.2.1 dX12_feed_101 ?_
  refine lv_ishr C.1 C.2.1 dX12_feed_102 ?_
  refine lv_sipush (v := (255 : Int32)) C.1 C.2.1 dX12_feed_103 (by decide) ?_
  refine lv_iand C.1 C.2.1 dX12_feed_106 ?_
  obtain ⟨S1, e1, hi1, h⟩ := stI_ok h
  refine hr_ist C hR aM_1 hi1 e1 dX12_feed_107 (fun H locs hR => ?_)
  refine lv_aload_n C.1 C.2.1 dX12_feed_108 rfl (lv_at hl 1 rfl) ?_
  refine lv_dup C.1 C.2.1 dX12_feed_109 rfl ?_
  refine ho_getI C cf12 fM_261 hR aM_0 dX12_feed_110 ?_
  refine lv_iconst (v := (1 : Int32)) C.1 C.2.1 dX12_feed_113 (by decide) ?_
  refine lv_iadd C.1 C.2.1 dX12_feed_114 ?_
  obtain ⟨S2, e2, h⟩ := le1_ok h
  refine hr_putI C cf12 fM_261 hR aM_0 e2 dX12_feed_115 (fun H locs hR => ?_)
  obtain ⟨v3, e3, h⟩ := le1_ok h
  refine lv_iinc (v := v3) (lv' := [(6, .int v3), (7, .int z0), (0, .ref (E.2.1 0)), (1, .int x1), (2, .int x2), (3, .int x3), (4, .int x4), (5, .int x5)]) C.1 C.2.1 dX12_feed_118 hl (k := 7) rfl (by rw [e3]; rfl) (by decide) rfl (fun ls hl => ?_)
  refine lv_goto (tgt := 28) C.1 C.2.1 dX12_feed_121 (by decide) ?_
  exact hK28 x1 x2 x3 x4 x5 v3 S2 h _ _ _ hR (lv_sub hl [2, 3, 4, 5, 6, 7, 0] rfl)
def f_X12_feed_28 : Nat → Int32 → Int32 → Int32 → Int32 → Int32 → Int32 → Hp → Option (Int32 × Hp)
  | 0, _, _, _, _, _, _, _ => none
  | k + 1, x1, x2, x3, x4, x5, x6, S => if (20 : Int32) ≤ x6 then some ((S.1 0 1), S) else if (4 : Int32) ≤ x6 then if (8 : Int32) ≤ x6 then if (12 : Int32) ≤ x6 then if (16 : Int32) ≤ x6 then f_X12_feed_81 (f_X12_feed_28 k) x1 x2 x3 x4 x5 x6 x5 S else f_X12_feed_81 (f_X12_feed_28 k) x1 x2 x3 x4 x5 x6 x4 S else f_X12_feed_81 (f_X12_feed_28 k) x1 x2 x3 x4 x5 x6 x3 S else f_X12_feed_81 (f_X12_feed_28 k) x1 x2 x3 x4 x5 x6 x2 S else f_X12_feed_81 (f_X12_feed_28 k) x1 x2 x3 x4 x5 x6 x1 S
set_option maxHeartbeats 4000000 in
set_option maxRecDepth 100000 in
theorem w_X12_feed_28 {p : Program} {l : Launch} {e : Env} {s : State} {m : MethodId} {args : Array Value} {below : List Frame} {meth : Method} {c : Code} {E : Ev} {S0 : Hp} {r : (Int32 × Hp)} (C : ho_I p s m args meth c RX12 cX12_feed 8 (some .int)) :
    ∀ (k : Nat) (x1 : Int32) (x2 : Int32) (x3 : Int32) (x4 : Int32) (x5 : Int32) (x6 : Int32) (S : Hp), f_X12_feed_28 k x1 x2 x3 x4 x5 x6 S = some r → ho_G p l e s m args below meth c yM E S0 0 8 (some (.int r.1), r.2) 28 [(0, .ref (E.2.1 0)), (1, .int x1), (2, .int x2), (3, .int x3), (4, .int x4), (5, .int x5), (6, .int x6)] [] S := by
  intro k
  induction k with
  | zero =>
    intro x1 x2 x3 x4 x5 x6 S h
    exact absurd (show (none : Option (Int32 × Hp)) = some r from h) (by simp)
  | succ k ih =>
    intro x1 x2 x3 x4 x5 x6 S h H locs ls hR hl
    rw [f_X12_feed_28] at h
    refine lv_iload C.1 C.2.1 dX12_feed_28 (lv_at hl 6 rfl) ?_
    refine lv_bipush (v := (20 : Int32)) C.1 C.2.1 dX12_feed_30 (by decide) ?_
    refine lv_icmp_ge (tgt := 124) C.1 C.2.1 dX12_feed_32 (by decide) (fun hc => ?_) (fun hc => ?_)
    · replace h := if_t h hc
      refine lv_aload_n C.1 C.2.1 dX12_feed_124 rfl (lv_at hl 0 rfl) ?_
      refine ho_getI C cf12 fM_261 hR aM_0 dX12_feed_125 ?_
      exact ho_iret C hR h dX12_feed_128
    · replace h := if_f h hc
      refine lv_iload C.1 C.2.1 dX12_feed_35 (lv_at hl 6 rfl) ?_
      refine lv_iconst (v := (4 : Int32)) C.1 C.2.1 dX12_feed_37 (by decide) ?_
      refine lv_icmp_ge (tgt := 45) C.1 C.2.1 dX12_feed_38 (by decide) (fun hc => ?_) (fun hc => ?_)
      · replace h := if_t h hc
        refine lv_iload C.1 C.2.1 dX12_feed_45 (lv_at hl 6 rfl) ?_
        refine lv_bipush (v := (8 : Int32)) C.1 C.2.1 dX12_feed_47 (by decide) ?_
        refine lv_icmp_ge (tgt := 56) C.1 C.2.1 dX12_feed_49 (by decide) (fun hc => ?_) (fun hc => ?_)
        · replace h := if_t h hc
          refine lv_iload C.1 C.2.1 dX12_feed_56 (lv_at hl 6 rfl) ?_
          refine lv_bipush (v := (12 : Int32)) C.1 C.2.1 dX12_feed_58 (by decide) ?_
          refine lv_icmp_ge (tgt := 67) C.1 C.2.1 dX12_feed_60 (by decide) (fun hc => ?_) (fun hc => ?_)
          · replace h := if_t h hc
            refine lv_iload C.1 C.2.1 dX12_feed_67 (lv_at hl 6 rfl) ?_
            refine lv_bipush (v := (16 : Int32)) C.1 C.2.1 dX12_feed_69 (by decide) ?_
            refine lv_icmp_ge (tgt := 79) C.1 C.2.1 dX12_feed_71 (by decide) (fun hc => ?_) (fun hc => ?_)
            · replace h := if_t h hc
              refine lv_iload C.1 C.2.1 dX12_feed_79 (lv_at hl 5 rfl) ?_
              exact w_X12_feed_81 C (f_X12_feed_28 k) ih x1 x2 x3 x4 x5 x6 x5 S h _ _ _ hR (lv_sub hl [0, 1, 2, 3, 4, 5, 6] rfl)
            · replace h := if_f h hc
              refine lv_iload C.1 C.2.1 dX12_feed_74 (lv_at hl 4 rfl) ?_
              refine lv_goto (tgt := 81) C.1 C.2.1 dX12_feed_76 (by decide) ?_
              exact w_X12_feed_81 C (f_X12_feed_28 k) ih x1 x2 x3 x4 x5 x6 x4 S h _ _ _ hR (lv_sub hl [0, 1, 2, 3, 4, 5, 6] rfl)
          · replace h := if_f h hc
            refine lv_iload_n C.1 C.2.1 dX12_feed_63 rfl (lv_at hl 3 rfl) ?_
            refine lv_goto (tgt := 81) C.1 C.2.1 dX12_feed_64 (by decide) ?_
            exact w_X12_feed_81 C (f_X12_feed_28 k) ih x1 x2 x3 x4 x5 x6 x3 S h _ _ _ hR (lv_sub hl [0, 1, 2, 3, 4, 5, 6] rfl)
        · replace h := if_f h hc
          refine lv_iload_n C.1 C.2.1 dX12_feed_52 rfl (lv_at hl 2 rfl) ?_
          refine lv_goto (tgt := 81) C.1 C.2.1 dX12_feed_53 (by decide) ?_
          exact w_X12_feed_81 C (f_X12_feed_28 k) ih x1 x2 x3 x4 x5 x6 x2 S h _ _ _ hR (lv_sub hl [0, 1, 2, 3, 4, 5, 6] rfl)
      · replace h := if_f h hc
        refine lv_iload_n C.1 C.2.1 dX12_feed_41 rfl (lv_at hl 1 rfl) ?_
        refine lv_goto (tgt := 81) C.1 C.2.1 dX12_feed_42 (by decide) ?_
        exact w_X12_feed_81 C (f_X12_feed_28 k) ih x1 x2 x3 x4 x5 x6 x1 S h _ _ _ hR (lv_sub hl [0, 1, 2, 3, 4, 5, 6] rfl)
def f_X12_feed (x1 : Int32) (x2 : Int32) (x3 : Int32) (x4 : Int32) (x5 : Int32) (S : Hp) : Option (Int32 × Hp) :=
  if ((S.1 0 1) + (20 : Int32)) ≤ (1600 : Int32) then f_X12_feed_28 5000 x1 x2 x3 x4 x5 (0 : Int32) S else ldI S 10 6 (0 : Int32) (fun v1 => stI S 10 6 (0 : Int32) (v1 + (1 : Int32)) (fun S2 => some ((-1 : Int32), S2)))
set_option maxHeartbeats 4000000 in
set_option maxRecDepth 100000 in
theorem c_X12_feed (l : Launch) (E : Ev) (x1 : Int32) (x2 : Int32) (x3 : Int32) (x4 : Int32) (x5 : Int32) (S : Hp) (r : (Int32 × Hp)) (h : f_X12_feed x1 x2 x3 x4 x5 S = some r) : ho_M l yM E yX12_feed cX12_feed 8 (some .int) 0 [.ref (E.2.1 0), .int x1, .int x2, .int x3, .int x4, .int x5] S (some (.int r.1), r.2) := by
  refine ho_in (by decide) (Nat.le_of_ble_eq_true rfl) ?_
  intro p e s m args below meth c C hR ls hl
  have C : ho_I p s m args meth c RX12 cX12_feed 8 (some .int) := C
  have hl : lv_has ls 8 [(0, .ref (E.2.1 0)), (1, .int x1), (2, .int x2), (3, .int x3), (4, .int x4), (5, .int x5)] := hl
  unfold f_X12_feed at h
  refine lv_aload_n C.1 C.2.1 dX12_feed_0 rfl (lv_at hl 0 rfl) ?_
  refine ho_getI C cf12 fM_261 hR aM_0 dX12_feed_1 ?_
  refine lv_bipush (v := (20 : Int32)) C.1 C.2.1 dX12_feed_4 (by decide) ?_
  refine lv_iadd C.1 C.2.1 dX12_feed_6 ?_
  refine lv_sipush (v := (1600 : Int32)) C.1 C.2.1 dX12_feed_7 (by decide) ?_
  refine lv_icmp_le (tgt := 25) C.1 C.2.1 dX12_feed_10 (by decide) (fun hc => ?_) (fun hc => ?_)
  · replace h := if_t h hc
    refine lv_iconst (v := (0 : Int32)) C.1 C.2.1 dX12_feed_25 (by decide) ?_
    refine lv_istore (lv' := [(6, .int (0 : Int32)), (0, .ref (E.2.1 0)), (1, .int x1), (2, .int x2), (3, .int x3), (4, .int x4), (5, .int x5)]) C.1 C.2.1 dX12_feed_26 hl (by decide) rfl (fun ls hl => ?_)
    exact w_X12_feed_28 C 5000 x1 x2 x3 x4 x5 (0 : Int32) S h _ _ _ hR (lv_sub hl [1, 2, 3, 4, 5, 6, 0] rfl)
  · replace h := if_f h hc
    refine lv_aload_n C.1 C.2.1 dX12_feed_13 rfl (lv_at hl 0 rfl) ?_
    refine ho_getR (a' := 10) C cf12 fM_17 hR aM_0 rfl dX12_feed_14 ?_
    refine lv_iconst (v := (0 : Int32)) C.1 C.2.1 dX12_feed_17 (by decide) ?_
    refine lv_dup2_11 C.1 C.2.1 dX12_feed_18 rfl rfl ?_
    obtain ⟨v1, e1, hi1, h⟩ := ldI_ok h
    refine hr_ild C hR aM_10 hi1 e1 dX12_feed_19 ?_
    refine lv_iconst (v := (1 : Int32)) C.1 C.2.1 dX12_feed_20 (by decide) ?_
    refine lv_iadd C.1 C.2.1 dX12_feed_21 ?_
    obtain ⟨S2, e2, hi2, h⟩ := stI_ok h
    refine hr_ist C hR aM_10 hi2 e2 dX12_feed_22 (fun H locs hR => ?_)
    refine lv_iconst (v := (-1 : Int32)) C.1 C.2.1 dX12_feed_23 (by decide) ?_
    exact ho_iret C hR h dX12_feed_24
theorem dX12_end_0 : decode cX12_end 0 = .ok (.iload_n 1, 1) := by decide +kernel
theorem dX12_end_1 : decode cX12_end 1 = .ok (.ifCond .lt 11, 3) := by decide +kernel
theorem dX12_end_4 : decode cX12_end 4 = .ok (.iload_n 1, 1) := by decide +kernel
theorem dX12_end_5 : decode cX12_end 5 = .ok (.aload_n 0, 1) := by decide +kernel
theorem dX12_end_6 : decode cX12_end 6 = .ok (.getfield 261, 3) := by decide +kernel
theorem dX12_end_9 : decode cX12_end 9 = .ok (.if_icmp .le 15, 3) := by decide +kernel
theorem dX12_end_12 : decode cX12_end 12 = .ok (.aload_n 0, 1) := by decide +kernel
theorem dX12_end_13 : decode cX12_end 13 = .ok (.getfield 17, 3) := by decide +kernel
theorem dX12_end_16 : decode cX12_end 16 = .ok (.iconst 0, 1) := by decide +kernel
theorem dX12_end_17 : decode cX12_end 17 = .ok (.dup2, 1) := by decide +kernel
theorem dX12_end_18 : decode cX12_end 18 = .ok (.iaload, 1) := by decide +kernel
theorem dX12_end_19 : decode cX12_end 19 = .ok (.iconst 1, 1) := by decide +kernel
theorem dX12_end_20 : decode cX12_end 20 = .ok (.iadd, 1) := by decide +kernel
theorem dX12_end_21 : decode cX12_end 21 = .ok (.iastore, 1) := by decide +kernel
theorem dX12_end_22 : decode cX12_end 22 = .ok (.iconst 0, 1) := by decide +kernel
theorem dX12_end_23 : decode cX12_end 23 = .ok (.ireturn, 1) := by decide +kernel
theorem dX12_end_24 : decode cX12_end 24 = .ok (.aload_n 0, 1) := by decide +kernel
theorem dX12_end_25 : decode cX12_end 25 = .ok (.iload_n 1, 1) := by decide +kernel
theorem dX12_end_26 : decode cX12_end 26 = .ok (.putfield 261, 3) := by decide +kernel
theorem dX12_end_29 : decode cX12_end 29 = .ok (.iconst 1, 1) := by decide +kernel
theorem dX12_end_30 : decode cX12_end 30 = .ok (.ireturn, 1) := by decide +kernel
def f_X12_end_12 (S : Hp) : Option (Int32 × Hp) :=
  ldI S 10 6 (0 : Int32) (fun v1 => stI S 10 6 (0 : Int32) (v1 + (1 : Int32)) (fun S2 => some ((0 : Int32), S2)))
set_option maxHeartbeats 4000000 in
set_option maxRecDepth 100000 in
theorem w_X12_end_12 {p : Program} {l : Launch} {e : Env} {s : State} {m : MethodId} {args : Array Value} {below : List Frame} {meth : Method} {c : Code} {E : Ev} {S0 : Hp} {r : (Int32 × Hp)} (C : ho_I p s m args meth c RX12 cX12_end 2 (some .boolean)) :
    ∀ (S : Hp), f_X12_end_12 S = some r → ho_G p l e s m args below meth c yM E S0 0 2 (some (.int r.1), r.2) 12 [(0, .ref (E.2.1 0))] [] S := by
  intro S h H locs ls hR hl
  unfold f_X12_end_12 at h
  refine lv_aload_n C.1 C.2.1 dX12_end_12 rfl (lv_at hl 0 rfl) ?_
  refine ho_getR (a' := 10) C cf12 fM_17 hR aM_0 rfl dX12_end_13 ?_
  refine lv_iconst (v := (0 : Int32)) C.1 C.2.1 dX12_end_16 (by decide) ?_
  refine lv_dup2_11 C.1 C.2.1 dX12_end_17 rfl rfl ?_
  obtain ⟨v1, e1, hi1, h⟩ := ldI_ok h
  refine hr_ild C hR aM_10 hi1 e1 dX12_end_18 ?_
  refine lv_iconst (v := (1 : Int32)) C.1 C.2.1 dX12_end_19 (by decide) ?_
  refine lv_iadd C.1 C.2.1 dX12_end_20 ?_
  obtain ⟨S2, e2, hi2, h⟩ := stI_ok h
  refine hr_ist C hR aM_10 hi2 e2 dX12_end_21 (fun H locs hR => ?_)
  refine lv_iconst (v := (0 : Int32)) C.1 C.2.1 dX12_end_22 (by decide) ?_
  exact ho_zret C hR (Or.inl rfl) h dX12_end_23
def f_X12_end (x1 : Int32) (S : Hp) : Option (Int32 × Hp) :=
  if x1 < 0 then f_X12_end_12 S else if x1 ≤ (S.1 0 1) then le1 (ho_sI S 0 1 x1) (fun S1 => some ((1 : Int32), S1)) else f_X12_end_12 S
set_option maxHeartbeats 4000000 in
set_option maxRecDepth 100000 in
theorem c_X12_end (l : Launch) (E : Ev) (x1 : Int32) (S : Hp) (r : (Int32 × Hp)) (h : f_X12_end x1 S = some r) : ho_M l yM E yX12_end cX12_end 2 (some .boolean) 0 [.ref (E.2.1 0), .int x1] S (some (.int r.1), r.2) := by
  refine ho_in (by decide) (Nat.le_of_ble_eq_true rfl) ?_
  intro p e s m args below meth c C hR ls hl
  have C : ho_I p s m args meth c RX12 cX12_end 2 (some .boolean) := C
  have hl : lv_has ls 2 [(0, .ref (E.2.1 0)), (1, .int x1)] := hl
  unfold f_X12_end at h
  refine lv_iload_n C.1 C.2.1 dX12_end_0 rfl (lv_at hl 1 rfl) ?_
  refine lv_if_lt (tgt := 12) C.1 C.2.1 dX12_end_1 (by decide) (fun hc => ?_) (fun hc => ?_)
  · replace h := if_t h hc
    exact w_X12_end_12 C S h _ _ _ hR (lv_sub hl [0] rfl)
  · replace h := if_f h hc
    refine lv_iload_n C.1 C.2.1 dX12_end_4 rfl (lv_at hl 1 rfl) ?_
    refine lv_aload_n C.1 C.2.1 dX12_end_5 rfl (lv_at hl 0 rfl) ?_
    refine ho_getI C cf12 fM_261 hR aM_0 dX12_end_6 ?_
    refine lv_icmp_le (tgt := 24) C.1 C.2.1 dX12_end_9 (by decide) (fun hc => ?_) (fun hc => ?_)
    · replace h := if_t h hc
      refine lv_aload_n C.1 C.2.1 dX12_end_24 rfl (lv_at hl 0 rfl) ?_
      refine lv_iload_n C.1 C.2.1 dX12_end_25 rfl (lv_at hl 1 rfl) ?_
      obtain ⟨S1, e1, h⟩ := le1_ok h
      refine hr_putI C cf12 fM_261 hR aM_0 e1 dX12_end_26 (fun H locs hR => ?_)
      refine lv_iconst (v := (1 : Int32)) C.1 C.2.1 dX12_end_29 (by decide) ?_
      exact ho_zret C hR (Or.inr rfl) h dX12_end_30
    · replace h := if_f h hc
      exact w_X12_end_12 C S h _ _ _ hR (lv_sub hl [0] rfl)
theorem dX12_fail_0 : decode cX12_fail 0 = .ok (.aload_n 0, 1) := by decide +kernel
theorem dX12_fail_1 : decode cX12_fail 1 = .ok (.getfield 264, 3) := by decide +kernel
theorem dX12_fail_4 : decode cX12_fail 4 = .ok (.ifCond .eq 4, 3) := by decide +kernel
theorem dX12_fail_7 : decode cX12_fail 7 = .ok (.return_, 1) := by decide +kernel
theorem dX12_fail_8 : decode cX12_fail 8 = .ok (.aload_n 0, 1) := by decide +kernel
theorem dX12_fail_9 : decode cX12_fail 9 = .ok (.iload_n 1, 1) := by decide +kernel
theorem dX12_fail_10 : decode cX12_fail 10 = .ok (.putfield 264, 3) := by decide +kernel
theorem dX12_fail_13 : decode cX12_fail 13 = .ok (.aload_n 0, 1) := by decide +kernel
theorem dX12_fail_14 : decode cX12_fail 14 = .ok (.iload_n 2, 1) := by decide +kernel
theorem dX12_fail_15 : decode cX12_fail 15 = .ok (.putfield 267, 3) := by decide +kernel
theorem dX12_fail_18 : decode cX12_fail 18 = .ok (.return_, 1) := by decide +kernel
def f_X12_fail (x1 : Int32) (x2 : Int32) (S : Hp) : Option Hp :=
  if (S.1 0 5) = 0 then le1 (ho_sI S 0 5 x1) (fun S1 => le1 (ho_sI S1 0 6 x2) (fun S2 => some S2)) else some S
set_option maxHeartbeats 4000000 in
set_option maxRecDepth 100000 in
theorem c_X12_fail (l : Launch) (E : Ev) (x1 : Int32) (x2 : Int32) (S : Hp) (r : Hp) (h : f_X12_fail x1 x2 S = some r) : ho_M l yM E yX12_fail cX12_fail 3 none 0 [.ref (E.2.1 0), .int x1, .int x2] S (none, r) := by
  refine ho_in (by decide) (Nat.le_of_ble_eq_true rfl) ?_
  intro p e s m args below meth c C hR ls hl
  have C : ho_I p s m args meth c RX12 cX12_fail 3 none := C
  have hl : lv_has ls 3 [(0, .ref (E.2.1 0)), (1, .int x1), (2, .int x2)] := hl
  unfold f_X12_fail at h
  refine lv_aload_n C.1 C.2.1 dX12_fail_0 rfl (lv_at hl 0 rfl) ?_
  refine ho_getI C cf12 fM_264 hR aM_0 dX12_fail_1 ?_
  refine lv_if_eq (tgt := 8) C.1 C.2.1 dX12_fail_4 (by decide) (fun hc => ?_) (fun hc => ?_)
  · replace h := if_t h hc
    refine lv_aload_n C.1 C.2.1 dX12_fail_8 rfl (lv_at hl 0 rfl) ?_
    refine lv_iload_n C.1 C.2.1 dX12_fail_9 rfl (lv_at hl 1 rfl) ?_
    obtain ⟨S1, e1, h⟩ := le1_ok h
    refine hr_putI C cf12 fM_264 hR aM_0 e1 dX12_fail_10 (fun H locs hR => ?_)
    refine lv_aload_n C.1 C.2.1 dX12_fail_13 rfl (lv_at hl 0 rfl) ?_
    refine lv_iload_n C.1 C.2.1 dX12_fail_14 rfl (lv_at hl 2 rfl) ?_
    obtain ⟨S2, e2, h⟩ := le1_ok h
    refine hr_putI C cf12 fM_267 hR aM_0 e2 dX12_fail_15 (fun H locs hR => ?_)
    exact ho_vret C hR h dX12_fail_18
  · replace h := if_f h hc
    exact ho_vret C hR h dX12_fail_7
theorem dX12_isLetter_0 : decode cX12_isLetter 0 = .ok (.iload_n 0, 1) := by decide +kernel
theorem dX12_isLetter_1 : decode cX12_isLetter 1 = .ok (.bipush 97, 2) := by decide +kernel
theorem dX12_isLetter_3 : decode cX12_isLetter 3 = .ok (.if_icmp .lt 13, 3) := by decide +kernel
theorem dX12_isLetter_6 : decode cX12_isLetter 6 = .ok (.iload_n 0, 1) := by decide +kernel
theorem dX12_isLetter_7 : decode cX12_isLetter 7 = .ok (.bipush 122, 2) := by decide +kernel
theorem dX12_isLetter_9 : decode cX12_isLetter 9 = .ok (.if_icmp .gt 7, 3) := by decide +kernel
theorem dX12_isLetter_12 : decode cX12_isLetter 12 = .ok (.iconst 1, 1) := by decide +kernel
theorem dX12_isLetter_13 : decode cX12_isLetter 13 = .ok (.goto 4, 3) := by decide +kernel
theorem dX12_isLetter_16 : decode cX12_isLetter 16 = .ok (.iconst 0, 1) := by decide +kernel
theorem dX12_isLetter_17 : decode cX12_isLetter 17 = .ok (.ireturn, 1) := by decide +kernel
def f_X12_isLetter (x0 : Int32) (S : Hp) : Option (Int32 × Hp) :=
  if x0 < (97 : Int32) then some ((0 : Int32), S) else if (122 : Int32) < x0 then some ((0 : Int32), S) else some ((1 : Int32), S)
set_option maxHeartbeats 4000000 in
set_option maxRecDepth 100000 in
theorem c_X12_isLetter (l : Launch) (E : Ev) (x0 : Int32) (S : Hp) (r : (Int32 × Hp)) (h : f_X12_isLetter x0 S = some r) : ho_M l yM E yX12_isLetter cX12_isLetter 1 (some .boolean) 0 [.int x0] S (some (.int r.1), r.2) := by
  refine ho_in (by decide) (Nat.le_of_ble_eq_true rfl) ?_
  intro p e s m args below meth c C hR ls hl
  have C : ho_I p s m args meth c RX12 cX12_isLetter 1 (some .boolean) := C
  have hl : lv_has ls 1 [(0, .int x0)] := hl
  unfold f_X12_isLetter at h
  refine lv_iload_n C.1 C.2.1 dX12_isLetter_0 rfl (lv_at hl 0 rfl) ?_
  refine lv_bipush (v := (97 : Int32)) C.1 C.2.1 dX12_isLetter_1 (by decide) ?_
  refine lv_icmp_lt (tgt := 16) C.1 C.2.1 dX12_isLetter_3 (by decide) (fun hc => ?_) (fun hc => ?_)
  · replace h := if_t h hc
    refine lv_iconst (v := (0 : Int32)) C.1 C.2.1 dX12_isLetter_16 (by decide) ?_
    exact ho_zret C hR (Or.inl rfl) h dX12_isLetter_17
  · replace h := if_f h hc
    refine lv_iload_n C.1 C.2.1 dX12_isLetter_6 rfl (lv_at hl 0 rfl) ?_
    refine lv_bipush (v := (122 : Int32)) C.1 C.2.1 dX12_isLetter_7 (by decide) ?_
    refine lv_icmp_gt (tgt := 16) C.1 C.2.1 dX12_isLetter_9 (by decide) (fun hc => ?_) (fun hc => ?_)
    · replace h := if_t h hc
      refine lv_iconst (v := (0 : Int32)) C.1 C.2.1 dX12_isLetter_16 (by decide) ?_
      exact ho_zret C hR (Or.inl rfl) h dX12_isLetter_17
    · replace h := if_f h hc
      refine lv_iconst (v := (1 : Int32)) C.1 C.2.1 dX12_isLetter_12 (by decide) ?_
      refine lv_goto (tgt := 17) C.1 C.2.1 dX12_isLetter_13 (by decide) ?_
      exact ho_zret C hR (Or.inr rfl) h dX12_isLetter_17
theorem dX12_isDigit_0 : decode cX12_isDigit 0 = .ok (.iload_n 0, 1) := by decide +kernel
theorem dX12_isDigit_1 : decode cX12_isDigit 1 = .ok (.bipush 48, 2) := by decide +kernel
theorem dX12_isDigit_3 : decode cX12_isDigit 3 = .ok (.if_icmp .lt 13, 3) := by decide +kernel
theorem dX12_isDigit_6 : decode cX12_isDigit 6 = .ok (.iload_n 0, 1) := by decide +kernel
theorem dX12_isDigit_7 : decode cX12_isDigit 7 = .ok (.bipush 57, 2) := by decide +kernel
theorem dX12_isDigit_9 : decode cX12_isDigit 9 = .ok (.if_icmp .gt 7, 3) := by decide +kernel
theorem dX12_isDigit_12 : decode cX12_isDigit 12 = .ok (.iconst 1, 1) := by decide +kernel
theorem dX12_isDigit_13 : decode cX12_isDigit 13 = .ok (.goto 4, 3) := by decide +kernel
theorem dX12_isDigit_16 : decode cX12_isDigit 16 = .ok (.iconst 0, 1) := by decide +kernel
theorem dX12_isDigit_17 : decode cX12_isDigit 17 = .ok (.ireturn, 1) := by decide +kernel
def f_X12_isDigit (x0 : Int32) (S : Hp) : Option (Int32 × Hp) :=
  if x0 < (48 : Int32) then some ((0 : Int32), S) else if (57 : Int32) < x0 then some ((0 : Int32), S) else some ((1 : Int32), S)
set_option maxHeartbeats 4000000 in
set_option maxRecDepth 100000 in
theorem c_X12_isDigit (l : Launch) (E : Ev) (x0 : Int32) (S : Hp) (r : (Int32 × Hp)) (h : f_X12_isDigit x0 S = some r) : ho_M l yM E yX12_isDigit cX12_isDigit 1 (some .boolean) 0 [.int x0] S (some (.int r.1), r.2) := by
  refine ho_in (by decide) (Nat.le_of_ble_eq_true rfl) ?_
  intro p e s m args below meth c C hR ls hl
  have C : ho_I p s m args meth c RX12 cX12_isDigit 1 (some .boolean) := C
  have hl : lv_has ls 1 [(0, .int x0)] := hl
  unfold f_X12_isDigit at h
  refine lv_iload_n C.1 C.2.1 dX12_isDigit_0 rfl (lv_at hl 0 rfl) ?_
  refine lv_bipush (v := (48 : Int32)) C.1 C.2.1 dX12_isDigit_1 (by decide) ?_
  refine lv_icmp_lt (tgt := 16) C.1 C.2.1 dX12_isDigit_3 (by decide) (fun hc => ?_) (fun hc => ?_)
  · replace h := if_t h hc
    refine lv_iconst (v := (0 : Int32)) C.1 C.2.1 dX12_isDigit_16 (by decide) ?_
    exact ho_zret C hR (Or.inl rfl) h dX12_isDigit_17
  · replace h := if_f h hc
    refine lv_iload_n C.1 C.2.1 dX12_isDigit_6 rfl (lv_at hl 0 rfl) ?_
    refine lv_bipush (v := (57 : Int32)) C.1 C.2.1 dX12_isDigit_7 (by decide) ?_
    refine lv_icmp_gt (tgt := 16) C.1 C.2.1 dX12_isDigit_9 (by decide) (fun hc => ?_) (fun hc => ?_)
    · replace h := if_t h hc
      refine lv_iconst (v := (0 : Int32)) C.1 C.2.1 dX12_isDigit_16 (by decide) ?_
      exact ho_zret C hR (Or.inl rfl) h dX12_isDigit_17
    · replace h := if_f h hc
      refine lv_iconst (v := (1 : Int32)) C.1 C.2.1 dX12_isDigit_12 (by decide) ?_
      refine lv_goto (tgt := 17) C.1 C.2.1 dX12_isDigit_13 (by decide) ?_
      exact ho_zret C hR (Or.inr rfl) h dX12_isDigit_17
theorem dX12_look0_0 : decode cX12_look0 0 = .ok (.aload_n 0, 1) := by decide +kernel
theorem dX12_look0_1 : decode cX12_look0 1 = .ok (.getfield 270, 3) := by decide +kernel
theorem dX12_look0_4 : decode cX12_look0 4 = .ok (.aload_n 0, 1) := by decide +kernel
theorem dX12_look0_5 : decode cX12_look0 5 = .ok (.getfield 273, 3) := by decide +kernel
theorem dX12_look0_8 : decode cX12_look0 8 = .ok (.if_icmp .ge 44, 3) := by decide +kernel
theorem dX12_look0_11 : decode cX12_look0 11 = .ok (.aload_n 0, 1) := by decide +kernel
theorem dX12_look0_12 : decode cX12_look0 12 = .ok (.getfield 7, 3) := by decide +kernel
theorem dX12_look0_15 : decode cX12_look0 15 = .ok (.aload_n 0, 1) := by decide +kernel
theorem dX12_look0_16 : decode cX12_look0 16 = .ok (.getfield 270, 3) := by decide +kernel
theorem dX12_look0_19 : decode cX12_look0 19 = .ok (.iaload, 1) := by decide +kernel
theorem dX12_look0_20 : decode cX12_look0 20 = .ok (.bipush 10, 2) := by decide +kernel
theorem dX12_look0_22 : decode cX12_look0 22 = .ok (.if_icmp .eq 17, 3) := by decide +kernel
theorem dX12_look0_25 : decode cX12_look0 25 = .ok (.aload_n 0, 1) := by decide +kernel
theorem dX12_look0_26 : decode cX12_look0 26 = .ok (.getfield 7, 3) := by decide +kernel
theorem dX12_look0_29 : decode cX12_look0 29 = .ok (.aload_n 0, 1) := by decide +kernel
theorem dX12_look0_30 : decode cX12_look0 30 = .ok (.getfield 270, 3) := by decide +kernel
theorem dX12_look0_33 : decode cX12_look0 33 = .ok (.iaload, 1) := by decide +kernel
theorem dX12_look0_34 : decode cX12_look0 34 = .ok (.bipush 32, 2) := by decide +kernel
theorem dX12_look0_36 : decode cX12_look0 36 = .ok (.if_icmp .ne 16, 3) := by decide +kernel
theorem dX12_look0_39 : decode cX12_look0 39 = .ok (.aload_n 0, 1) := by decide +kernel
theorem dX12_look0_40 : decode cX12_look0 40 = .ok (.dup, 1) := by decide +kernel
theorem dX12_look0_41 : decode cX12_look0 41 = .ok (.getfield 270, 3) := by decide +kernel
theorem dX12_look0_44 : decode cX12_look0 44 = .ok (.iconst 1, 1) := by decide +kernel
theorem dX12_look0_45 : decode cX12_look0 45 = .ok (.iadd, 1) := by decide +kernel
theorem dX12_look0_46 : decode cX12_look0 46 = .ok (.putfield 270, 3) := by decide +kernel
theorem dX12_look0_49 : decode cX12_look0 49 = .ok (.goto (-49), 3) := by decide +kernel
theorem dX12_look0_52 : decode cX12_look0 52 = .ok (.aload_n 0, 1) := by decide +kernel
theorem dX12_look0_53 : decode cX12_look0 53 = .ok (.getfield 270, 3) := by decide +kernel
theorem dX12_look0_56 : decode cX12_look0 56 = .ok (.aload_n 0, 1) := by decide +kernel
theorem dX12_look0_57 : decode cX12_look0 57 = .ok (.getfield 273, 3) := by decide +kernel
theorem dX12_look0_60 : decode cX12_look0 60 = .ok (.if_icmp .ge 15, 3) := by decide +kernel
theorem dX12_look0_63 : decode cX12_look0 63 = .ok (.aload_n 0, 1) := by decide +kernel
theorem dX12_look0_64 : decode cX12_look0 64 = .ok (.getfield 7, 3) := by decide +kernel
theorem dX12_look0_67 : decode cX12_look0 67 = .ok (.aload_n 0, 1) := by decide +kernel
theorem dX12_look0_68 : decode cX12_look0 68 = .ok (.getfield 270, 3) := by decide +kernel
theorem dX12_look0_71 : decode cX12_look0 71 = .ok (.iaload, 1) := by decide +kernel
theorem dX12_look0_72 : decode cX12_look0 72 = .ok (.goto 4, 3) := by decide +kernel
theorem dX12_look0_75 : decode cX12_look0 75 = .ok (.iconst (-1), 1) := by decide +kernel
theorem dX12_look0_76 : decode cX12_look0 76 = .ok (.ireturn, 1) := by decide +kernel
def f_X12_look0_52 (S : Hp) : Option (Int32 × Hp) :=
  if (S.1 0 3) ≤ (S.1 0 2) then some ((-1 : Int32), S) else ldI S 1 1600 (S.1 0 2) (fun v1 => some (v1, S))
set_option maxHeartbeats 4000000 in
set_option maxRecDepth 100000 in
theorem w_X12_look0_52 {p : Program} {l : Launch} {e : Env} {s : State} {m : MethodId} {args : Array Value} {below : List Frame} {meth : Method} {c : Code} {E : Ev} {S0 : Hp} {r : (Int32 × Hp)} (C : ho_I p s m args meth c RX12 cX12_look0 1 (some .int)) :
    ∀ (S : Hp), f_X12_look0_52 S = some r → ho_G p l e s m args below meth c yM E S0 0 1 (some (.int r.1), r.2) 52 [(0, .ref (E.2.1 0))] [] S := by
  intro S h H locs ls hR hl
  unfold f_X12_look0_52 at h
  refine lv_aload_n C.1 C.2.1 dX12_look0_52 rfl (lv_at hl 0 rfl) ?_
  refine ho_getI C cf12 fM_270 hR aM_0 dX12_look0_53 ?_
  refine lv_aload_n C.1 C.2.1 dX12_look0_56 rfl (lv_at hl 0 rfl) ?_
  refine ho_getI C cf12 fM_273 hR aM_0 dX12_look0_57 ?_
  refine lv_icmp_ge (tgt := 75) C.1 C.2.1 dX12_look0_60 (by decide) (fun hc => ?_) (fun hc => ?_)
  · replace h := if_t h hc
    refine lv_iconst (v := (-1 : Int32)) C.1 C.2.1 dX12_look0_75 (by decide) ?_
    exact ho_iret C hR h dX12_look0_76
  · replace h := if_f h hc
    refine lv_aload_n C.1 C.2.1 dX12_look0_63 rfl (lv_at hl 0 rfl) ?_
    refine ho_getR (a' := 1) C cf12 fM_7 hR aM_0 rfl dX12_look0_64 ?_
    refine lv_aload_n C.1 C.2.1 dX12_look0_67 rfl (lv_at hl 0 rfl) ?_
    refine ho_getI C cf12 fM_270 hR aM_0 dX12_look0_68 ?_
    obtain ⟨v1, e1, hi1, h⟩ := ldI_ok h
    refine hr_ild C hR aM_1 hi1 e1 dX12_look0_71 ?_
    refine lv_goto (tgt := 76) C.1 C.2.1 dX12_look0_72 (by decide) ?_
    exact ho_iret C hR h dX12_look0_76
def f_X12_look0_39 (K0 : Hp → Option (Int32 × Hp)) (S : Hp) : Option (Int32 × Hp) :=
  le1 (ho_sI S 0 2 ((S.1 0 2) + (1 : Int32))) (fun S1 => K0 S1)
set_option maxHeartbeats 4000000 in
set_option maxRecDepth 100000 in
theorem w_X12_look0_39 {p : Program} {l : Launch} {e : Env} {s : State} {m : MethodId} {args : Array Value} {below : List Frame} {meth : Method} {c : Code} {E : Ev} {S0 : Hp} {r : (Int32 × Hp)} (C : ho_I p s m args meth c RX12 cX12_look0 1 (some .int)) (K0 : Hp → Option (Int32 × Hp)) (hK0 : ∀ (S : Hp), K0 S = some r → ho_G p l e s m args below meth c yM E S0 0 1 (some (.int r.1), r.2) 0 [(0, .ref (E.2.1 0))] [] S) :
    ∀ (S : Hp), f_X12_look0_39 K0 S = some r → ho_G p l e s m args below meth c yM E S0 0 1 (some (.int r.1), r.2) 39 [(0, .ref (E.2.1 0))] [] S := by
  intro S h H locs ls hR hl
  unfold f_X12_look0_39 at h
  refine lv_aload_n C.1 C.2.1 dX12_look0_39 rfl (lv_at hl 0 rfl) ?_
  refine lv_dup C.1 C.2.1 dX12_look0_40 rfl ?_
  refine ho_getI C cf12 fM_270 hR aM_0 dX12_look0_41 ?_
  refine lv_iconst (v := (1 : Int32)) C.1 C.2.1 dX12_look0_44 (by decide) ?_
  refine lv_iadd C.1 C.2.1 dX12_look0_45 ?_
  obtain ⟨S1, e1, h⟩ := le1_ok h
  refine hr_putI C cf12 fM_270 hR aM_0 e1 dX12_look0_46 (fun H locs hR => ?_)
  refine lv_goto (tgt := 0) C.1 C.2.1 dX12_look0_49 (by decide) ?_
  exact hK0 S1 h _ _ _ hR (lv_sub hl [0] rfl)
def f_X12_look0_0 : Nat → Hp → Option (Int32 × Hp)
  | 0, _ => none
  | k + 1, S => if (S.1 0 3) ≤ (S.1 0 2) then f_X12_look0_52 S else ldI S 1 1600 (S.1 0 2) (fun v1 => if v1 = (10 : Int32) then f_X12_look0_39 (f_X12_look0_0 k) S else ldI S 1 1600 (S.1 0 2) (fun v2 => if v2 = (32 : Int32) then f_X12_look0_39 (f_X12_look0_0 k) S else f_X12_look0_52 S))
set_option maxHeartbeats 4000000 in
set_option maxRecDepth 100000 in
theorem w_X12_look0_0 {p : Program} {l : Launch} {e : Env} {s : State} {m : MethodId} {args : Array Value} {below : List Frame} {meth : Method} {c : Code} {E : Ev} {S0 : Hp} {r : (Int32 × Hp)} (C : ho_I p s m args meth c RX12 cX12_look0 1 (some .int)) :
    ∀ (k : Nat) (S : Hp), f_X12_look0_0 k S = some r → ho_G p l e s m args below meth c yM E S0 0 1 (some (.int r.1), r.2) 0 [(0, .ref (E.2.1 0))] [] S := by
  intro k
  induction k with
  | zero =>
    intro S h
    exact absurd (show (none : Option (Int32 × Hp)) = some r from h) (by simp)
  | succ k ih =>
    intro S h H locs ls hR hl
    rw [f_X12_look0_0] at h
    refine lv_aload_n C.1 C.2.1 dX12_look0_0 rfl (lv_at hl 0 rfl) ?_
    refine ho_getI C cf12 fM_270 hR aM_0 dX12_look0_1 ?_
    refine lv_aload_n C.1 C.2.1 dX12_look0_4 rfl (lv_at hl 0 rfl) ?_
    refine ho_getI C cf12 fM_273 hR aM_0 dX12_look0_5 ?_
    refine lv_icmp_ge (tgt := 52) C.1 C.2.1 dX12_look0_8 (by decide) (fun hc => ?_) (fun hc => ?_)
    · replace h := if_t h hc
      exact w_X12_look0_52 C S h _ _ _ hR (lv_sub hl [0] rfl)
    · replace h := if_f h hc
      refine lv_aload_n C.1 C.2.1 dX12_look0_11 rfl (lv_at hl 0 rfl) ?_
      refine ho_getR (a' := 1) C cf12 fM_7 hR aM_0 rfl dX12_look0_12 ?_
      refine lv_aload_n C.1 C.2.1 dX12_look0_15 rfl (lv_at hl 0 rfl) ?_
      refine ho_getI C cf12 fM_270 hR aM_0 dX12_look0_16 ?_
      obtain ⟨v1, e1, hi1, h⟩ := ldI_ok h
      refine hr_ild C hR aM_1 hi1 e1 dX12_look0_19 ?_
      refine lv_bipush (v := (10 : Int32)) C.1 C.2.1 dX12_look0_20 (by decide) ?_
      refine lv_icmp_eq (tgt := 39) C.1 C.2.1 dX12_look0_22 (by decide) (fun hc => ?_) (fun hc => ?_)
      · replace h := if_t h hc
        exact w_X12_look0_39 C (f_X12_look0_0 k) ih S h _ _ _ hR (lv_sub hl [0] rfl)
      · replace h := if_f h hc
        refine lv_aload_n C.1 C.2.1 dX12_look0_25 rfl (lv_at hl 0 rfl) ?_
        refine ho_getR (a' := 1) C cf12 fM_7 hR aM_0 rfl dX12_look0_26 ?_
        refine lv_aload_n C.1 C.2.1 dX12_look0_29 rfl (lv_at hl 0 rfl) ?_
        refine ho_getI C cf12 fM_270 hR aM_0 dX12_look0_30 ?_
        obtain ⟨v2, e2, hi2, h⟩ := ldI_ok h
        refine hr_ild C hR aM_1 hi2 e2 dX12_look0_33 ?_
        refine lv_bipush (v := (32 : Int32)) C.1 C.2.1 dX12_look0_34 (by decide) ?_
        refine lv_icmp_ne (tgt := 52) C.1 C.2.1 dX12_look0_36 (by decide) (fun hc => ?_) (fun hc => ?_)
        · replace h := if_f h hc
          exact w_X12_look0_52 C S h _ _ _ hR (lv_sub hl [0] rfl)
        · replace h := if_t h hc
          exact w_X12_look0_39 C (f_X12_look0_0 k) ih S h _ _ _ hR (lv_sub hl [0] rfl)
def f_X12_look0 (S : Hp) : Option (Int32 × Hp) :=
  f_X12_look0_0 5000 S
set_option maxHeartbeats 4000000 in
set_option maxRecDepth 100000 in
theorem c_X12_look0 (l : Launch) (E : Ev) (S : Hp) (r : (Int32 × Hp)) (h : f_X12_look0 S = some r) : ho_M l yM E yX12_look0 cX12_look0 1 (some .int) 0 [.ref (E.2.1 0)] S (some (.int r.1), r.2) := by
  refine ho_in (by decide) (Nat.le_of_ble_eq_true rfl) ?_
  intro p e s m args below meth c C hR ls hl
  have C : ho_I p s m args meth c RX12 cX12_look0 1 (some .int) := C
  have hl : lv_has ls 1 [(0, .ref (E.2.1 0))] := hl
  unfold f_X12_look0 at h
  exact w_X12_look0_0 C 5000 S h _ _ _ hR (lv_sub hl [0] rfl)
theorem dX12_isHere_0 : decode cX12_isHere 0 = .ok (.aload_n 0, 1) := by decide +kernel
theorem dX12_isHere_1 : decode cX12_isHere 1 = .ok (.getfield 264, 3) := by decide +kernel
theorem dX12_isHere_4 : decode cX12_isHere 4 = .ok (.ifCond .ne 24, 3) := by decide +kernel
theorem dX12_isHere_7 : decode cX12_isHere 7 = .ok (.aload_n 0, 1) := by decide +kernel
theorem dX12_isHere_8 : decode cX12_isHere 8 = .ok (.invokevirtual 276, 3) := by decide +kernel
theorem dX12_isHere_11 : decode cX12_isHere 11 = .ok (.invokestatic 280, 3) := by decide +kernel
theorem dX12_isHere_14 : decode cX12_isHere 14 = .ok (.ifCond .eq 14, 3) := by decide +kernel
theorem dX12_isHere_17 : decode cX12_isHere 17 = .ok (.aload_n 0, 1) := by decide +kernel
theorem dX12_isHere_18 : decode cX12_isHere 18 = .ok (.getfield 270, 3) := by decide +kernel
theorem dX12_isHere_21 : decode cX12_isHere 21 = .ok (.aload_n 0, 1) := by decide +kernel
theorem dX12_isHere_22 : decode cX12_isHere 22 = .ok (.getfield 284, 3) := by decide +kernel
theorem dX12_isHere_25 : decode cX12_isHere 25 = .ok (.if_icmp .ne 5, 3) := by decide +kernel
theorem dX12_isHere_28 : decode cX12_isHere 28 = .ok (.iconst 0, 1) := by decide +kernel
theorem dX12_isHere_29 : decode cX12_isHere 29 = .ok (.ireturn, 1) := by decide +kernel
theorem dX12_isHere_30 : decode cX12_isHere 30 = .ok (.aload_n 0, 1) := by decide +kernel
theorem dX12_isHere_31 : decode cX12_isHere 31 = .ok (.getfield 270, 3) := by decide +kernel
theorem dX12_isHere_34 : decode cX12_isHere 34 = .ok (.istore_n 2, 1) := by decide +kernel
theorem dX12_isHere_35 : decode cX12_isHere 35 = .ok (.iload_n 2, 1) := by decide +kernel
theorem dX12_isHere_36 : decode cX12_isHere 36 = .ok (.aload_n 0, 1) := by decide +kernel
theorem dX12_isHere_37 : decode cX12_isHere 37 = .ok (.getfield 273, 3) := by decide +kernel
theorem dX12_isHere_40 : decode cX12_isHere 40 = .ok (.if_icmp .ge 21, 3) := by decide +kernel
theorem dX12_isHere_43 : decode cX12_isHere 43 = .ok (.aload_n 0, 1) := by decide +kernel
theorem dX12_isHere_44 : decode cX12_isHere 44 = .ok (.getfield 7, 3) := by decide +kernel
theorem dX12_isHere_47 : decode cX12_isHere 47 = .ok (.iload_n 2, 1) := by decide +kernel
theorem dX12_isHere_48 : decode cX12_isHere 48 = .ok (.iaload, 1) := by decide +kernel
theorem dX12_isHere_49 : decode cX12_isHere 49 = .ok (.invokestatic 280, 3) := by decide +kernel
theorem dX12_isHere_52 : decode cX12_isHere 52 = .ok (.ifCond .eq 9, 3) := by decide +kernel
theorem dX12_isHere_55 : decode cX12_isHere 55 = .ok (.iinc 2 1, 3) := by decide +kernel
theorem dX12_isHere_58 : decode cX12_isHere 58 = .ok (.goto (-23), 3) := by decide +kernel
theorem dX12_isHere_61 : decode cX12_isHere 61 = .ok (.iload_n 2, 1) := by decide +kernel
theorem dX12_isHere_62 : decode cX12_isHere 62 = .ok (.aload_n 0, 1) := by decide +kernel
theorem dX12_isHere_63 : decode cX12_isHere 63 = .ok (.getfield 270, 3) := by decide +kernel
theorem dX12_isHere_66 : decode cX12_isHere 66 = .ok (.isub, 1) := by decide +kernel
theorem dX12_isHere_67 : decode cX12_isHere 67 = .ok (.aload_n 1, 1) := by decide +kernel
theorem dX12_isHere_68 : decode cX12_isHere 68 = .ok (.arraylength, 1) := by decide +kernel
theorem dX12_isHere_69 : decode cX12_isHere 69 = .ok (.if_icmp .eq 5, 3) := by decide +kernel
theorem dX12_isHere_72 : decode cX12_isHere 72 = .ok (.iconst 0, 1) := by decide +kernel
theorem dX12_isHere_73 : decode cX12_isHere 73 = .ok (.ireturn, 1) := by decide +kernel
theorem dX12_isHere_74 : decode cX12_isHere 74 = .ok (.iconst 0, 1) := by decide +kernel
theorem dX12_isHere_75 : decode cX12_isHere 75 = .ok (.istore_n 3, 1) := by decide +kernel
theorem dX12_isHere_76 : decode cX12_isHere 76 = .ok (.iload_n 3, 1) := by decide +kernel
theorem dX12_isHere_77 : decode cX12_isHere 77 = .ok (.aload_n 1, 1) := by decide +kernel
theorem dX12_isHere_78 : decode cX12_isHere 78 = .ok (.arraylength, 1) := by decide +kernel
theorem dX12_isHere_79 : decode cX12_isHere 79 = .ok (.if_icmp .ge 28, 3) := by decide +kernel
theorem dX12_isHere_82 : decode cX12_isHere 82 = .ok (.aload_n 0, 1) := by decide +kernel
theorem dX12_isHere_83 : decode cX12_isHere 83 = .ok (.getfield 7, 3) := by decide +kernel
theorem dX12_isHere_86 : decode cX12_isHere 86 = .ok (.aload_n 0, 1) := by decide +kernel
theorem dX12_isHere_87 : decode cX12_isHere 87 = .ok (.getfield 270, 3) := by decide +kernel
theorem dX12_isHere_90 : decode cX12_isHere 90 = .ok (.iload_n 3, 1) := by decide +kernel
theorem dX12_isHere_91 : decode cX12_isHere 91 = .ok (.iadd, 1) := by decide +kernel
theorem dX12_isHere_92 : decode cX12_isHere 92 = .ok (.iaload, 1) := by decide +kernel
theorem dX12_isHere_93 : decode cX12_isHere 93 = .ok (.aload_n 1, 1) := by decide +kernel
theorem dX12_isHere_94 : decode cX12_isHere 94 = .ok (.iload_n 3, 1) := by decide +kernel
theorem dX12_isHere_95 : decode cX12_isHere 95 = .ok (.caload, 1) := by decide +kernel
theorem dX12_isHere_96 : decode cX12_isHere 96 = .ok (.if_icmp .eq 5, 3) := by decide +kernel
theorem dX12_isHere_99 : decode cX12_isHere 99 = .ok (.iconst 0, 1) := by decide +kernel
theorem dX12_isHere_100 : decode cX12_isHere 100 = .ok (.ireturn, 1) := by decide +kernel
theorem dX12_isHere_101 : decode cX12_isHere 101 = .ok (.iinc 3 1, 3) := by decide +kernel
theorem dX12_isHere_104 : decode cX12_isHere 104 = .ok (.goto (-28), 3) := by decide +kernel
theorem dX12_isHere_107 : decode cX12_isHere 107 = .ok (.iconst 1, 1) := by decide +kernel
theorem dX12_isHere_108 : decode cX12_isHere 108 = .ok (.ireturn, 1) := by decide +kernel
def f_X12_isHere_76 (w1 n1 : Nat) : Nat → Int32 → Hp → Option (Int32 × Hp)
  | 0, _, _ => none
  | k + 1, x3, S => if (Int32.ofNat n1) ≤ x3 then some ((1 : Int32), S) else ldI S 1 1600 ((S.1 0 2) + x3) (fun v1 => ldI S w1 n1 x3 (fun v2 => if v1 = v2 then le1 (x3 + (1 : Int32)) (fun v3 => f_X12_isHere_76 w1 n1 k v3 S) else some ((0 : Int32), S)))
set_option maxHeartbeats 4000000 in
set_option maxRecDepth 100000 in
theorem w_X12_isHere_76 {p : Program} {l : Launch} {e : Env} {s : State} {m : MethodId} {args : Array Value} {below : List Frame} {meth : Method} {c : Code} {E : Ev} {S0 : Hp} {r : (Int32 × Hp)} (C : ho_I p s m args meth c RX12 cX12_isHere 4 (some .boolean)) (w1 n1 : Nat) (hw1 : w1 ∈ yM.1 ∧ yM.2.1 w1 = (3, n1)) :
    ∀ (k : Nat) (x3 : Int32) (S : Hp), f_X12_isHere_76 w1 n1 k x3 S = some r → ho_G p l e s m args below meth c yM E S0 1 4 (some (.int r.1), r.2) 76 [(0, .ref (E.2.1 0)), (1, .ref (E.2.1 w1)), (3, .int x3)] [] S := by
  intro k
  induction k with
  | zero =>
    intro x3 S h
    exact absurd (show (none : Option (Int32 × Hp)) = some r from h) (by simp)
  | succ k ih =>
    intro x3 S h H locs ls hR hl
    rw [f_X12_isHere_76] at h
    refine lv_iload_n C.1 C.2.1 dX12_isHere_76 rfl (lv_at hl 2 rfl) ?_
    refine lv_aload_n C.1 C.2.1 dX12_isHere_77 rfl (lv_at hl 1 rfl) ?_
    refine ho_alen (by decide) C hR hw1 dX12_isHere_78 ?_
    refine lv_icmp_ge (tgt := 107) C.1 C.2.1 dX12_isHere_79 (by decide) (fun hc => ?_) (fun hc => ?_)
    · replace h := if_t h hc
      refine lv_iconst (v := (1 : Int32)) C.1 C.2.1 dX12_isHere_107 (by decide) ?_
      exact ho_zret C hR (Or.inr rfl) h dX12_isHere_108
    · replace h := if_f h hc
      refine lv_aload_n C.1 C.2.1 dX12_isHere_82 rfl (lv_at hl 0 rfl) ?_
      refine ho_getR (a' := 1) C cf12 fM_7 hR aM_0 rfl dX12_isHere_83 ?_
      refine lv_aload_n C.1 C.2.1 dX12_isHere_86 rfl (lv_at hl 0 rfl) ?_
      refine ho_getI C cf12 fM_270 hR aM_0 dX12_isHere_87 ?_
      refine lv_iload_n C.1 C.2.1 dX12_isHere_90 rfl (lv_at hl 2 rfl) ?_
      refine lv_iadd C.1 C.2.1 dX12_isHere_91 ?_
      obtain ⟨v1, e1, hi1, h⟩ := ldI_ok h
      refine hr_ild C hR aM_1 hi1 e1 dX12_isHere_92 ?_
      refine lv_aload_n C.1 C.2.1 dX12_isHere_93 rfl (lv_at hl 1 rfl) ?_
      refine lv_iload_n C.1 C.2.1 dX12_isHere_94 rfl (lv_at hl 2 rfl) ?_
      obtain ⟨v2, e2, hi2, h⟩ := ldI_ok h
      refine hr_cld C hR hw1 hi2 e2 dX12_isHere_95 ?_
      refine lv_icmp_eq (tgt := 101) C.1 C.2.1 dX12_isHere_96 (by decide) (fun hc => ?_) (fun hc => ?_)
      · replace h := if_t h hc
        obtain ⟨v3, e3, h⟩ := le1_ok h
        refine lv_iinc (v := v3) (lv' := [(3, .int v3), (0, .ref (E.2.1 0)), (1, .ref (E.2.1 w1))]) C.1 C.2.1 dX12_isHere_101 hl (k := 2) rfl (by rw [e3]; rfl) (by decide) rfl (fun ls hl => ?_)
        refine lv_goto (tgt := 76) C.1 C.2.1 dX12_isHere_104 (by decide) ?_
        exact ih v3 S h _ _ _ hR (lv_sub hl [1, 2, 0] rfl)
      · replace h := if_f h hc
        refine lv_iconst (v := (0 : Int32)) C.1 C.2.1 dX12_isHere_99 (by decide) ?_
        exact ho_zret C hR (Or.inl rfl) h dX12_isHere_100
def f_X12_isHere_61 (w1 n1 : Nat) (x2 : Int32) (S : Hp) : Option (Int32 × Hp) :=
  if (x2 - (S.1 0 2)) = (Int32.ofNat n1) then f_X12_isHere_76 w1 n1 5000 (0 : Int32) S else some ((0 : Int32), S)
set_option maxHeartbeats 4000000 in
set_option maxRecDepth 100000 in
theorem w_X12_isHere_61 {p : Program} {l : Launch} {e : Env} {s : State} {m : MethodId} {args : Array Value} {below : List Frame} {meth : Method} {c : Code} {E : Ev} {S0 : Hp} {r : (Int32 × Hp)} (C : ho_I p s m args meth c RX12 cX12_isHere 4 (some .boolean)) (w1 n1 : Nat) (hw1 : w1 ∈ yM.1 ∧ yM.2.1 w1 = (3, n1)) :
    ∀ (x2 : Int32) (S : Hp), f_X12_isHere_61 w1 n1 x2 S = some r → ho_G p l e s m args below meth c yM E S0 1 4 (some (.int r.1), r.2) 61 [(0, .ref (E.2.1 0)), (1, .ref (E.2.1 w1)), (2, .int x2)] [] S := by
  intro x2 S h H locs ls hR hl
  unfold f_X12_isHere_61 at h
  refine lv_iload_n C.1 C.2.1 dX12_isHere_61 rfl (lv_at hl 2 rfl) ?_
  refine lv_aload_n C.1 C.2.1 dX12_isHere_62 rfl (lv_at hl 0 rfl) ?_
  refine ho_getI C cf12 fM_270 hR aM_0 dX12_isHere_63 ?_
  refine lv_isub C.1 C.2.1 dX12_isHere_66 ?_
  refine lv_aload_n C.1 C.2.1 dX12_isHere_67 rfl (lv_at hl 1 rfl) ?_
  refine ho_alen (by decide) C hR hw1 dX12_isHere_68 ?_
  refine lv_icmp_eq (tgt := 74) C.1 C.2.1 dX12_isHere_69 (by decide) (fun hc => ?_) (fun hc => ?_)
  · replace h := if_t h hc
    refine lv_iconst (v := (0 : Int32)) C.1 C.2.1 dX12_isHere_74 (by decide) ?_
    refine lv_istore_n (lv' := [(3, .int (0 : Int32)), (0, .ref (E.2.1 0)), (1, .ref (E.2.1 w1)), (2, .int x2)]) C.1 C.2.1 dX12_isHere_75 rfl hl (by decide) rfl (fun ls hl => ?_)
    exact w_X12_isHere_76 C w1 n1 hw1 5000 (0 : Int32) S h _ _ _ hR (lv_sub hl [1, 2, 0] rfl)
  · replace h := if_f h hc
    refine lv_iconst (v := (0 : Int32)) C.1 C.2.1 dX12_isHere_72 (by decide) ?_
    exact ho_zret C hR (Or.inl rfl) h dX12_isHere_73
def f_X12_isHere_35 (w1 n1 : Nat) : Nat → Int32 → Hp → Option (Int32 × Hp)
  | 0, _, _ => none
  | k + 1, x2, S => if (S.1 0 3) ≤ x2 then f_X12_isHere_61 w1 n1 x2 S else ldI S 1 1600 x2 (fun v1 => ob2 (f_X12_isLetter v1 S) (fun r2 S2 => if r2 = 0 then f_X12_isHere_61 w1 n1 x2 S2 else le1 (x2 + (1 : Int32)) (fun v3 => f_X12_isHere_35 w1 n1 k v3 S2)))
set_option maxHeartbeats 4000000 in
set_option maxRecDepth 100000 in
theorem w_X12_isHere_35 {p : Program} {l : Launch} {e : Env} {s : State} {m : MethodId} {args : Array Value} {below : List Frame} {meth : Method} {c : Code} {E : Ev} {S0 : Hp} {r : (Int32 × Hp)} (C : ho_I p s m args meth c RX12 cX12_isHere 4 (some .boolean)) (w1 n1 : Nat) (hw1 : w1 ∈ yM.1 ∧ yM.2.1 w1 = (3, n1)) :
    ∀ (k : Nat) (x2 : Int32) (S : Hp), f_X12_isHere_35 w1 n1 k x2 S = some r → ho_G p l e s m args below meth c yM E S0 1 4 (some (.int r.1), r.2) 35 [(0, .ref (E.2.1 0)), (1, .ref (E.2.1 w1)), (2, .int x2)] [] S := by
  intro k
  induction k with
  | zero =>
    intro x2 S h
    exact absurd (show (none : Option (Int32 × Hp)) = some r from h) (by simp)
  | succ k ih =>
    intro x2 S h H locs ls hR hl
    rw [f_X12_isHere_35] at h
    refine lv_iload_n C.1 C.2.1 dX12_isHere_35 rfl (lv_at hl 2 rfl) ?_
    refine lv_aload_n C.1 C.2.1 dX12_isHere_36 rfl (lv_at hl 0 rfl) ?_
    refine ho_getI C cf12 fM_273 hR aM_0 dX12_isHere_37 ?_
    refine lv_icmp_ge (tgt := 61) C.1 C.2.1 dX12_isHere_40 (by decide) (fun hc => ?_) (fun hc => ?_)
    · replace h := if_t h hc
      exact w_X12_isHere_61 C w1 n1 hw1 x2 S h _ _ _ hR (lv_sub hl [0, 1, 2] rfl)
    · replace h := if_f h hc
      refine lv_aload_n C.1 C.2.1 dX12_isHere_43 rfl (lv_at hl 0 rfl) ?_
      refine ho_getR (a' := 1) C cf12 fM_7 hR aM_0 rfl dX12_isHere_44 ?_
      refine lv_iload_n C.1 C.2.1 dX12_isHere_47 rfl (lv_at hl 2 rfl) ?_
      obtain ⟨v1, e1, hi1, h⟩ := ldI_ok h
      refine hr_ild C hR aM_1 hi1 e1 dX12_isHere_48 ?_
      obtain ⟨r2, S2, h2, h⟩ := ob2_ok h
      refine hr_Si (v := r2) (S' := S2) (As := [.int v1]) (rest := []) C (c_X12_isLetter l E v1 _ _ h2) ys_X12_isLetter lk_RX12_280 rfl rfl hl.1 (Nat.le_of_ble_eq_true rfl) (by decide) (by decide) hR (ho_A hR) dX12_isHere_49 (fun H locs hR => ?_)
      refine lv_if_eq (tgt := 61) C.1 C.2.1 dX12_isHere_52 (by decide) (fun hc => ?_) (fun hc => ?_)
      · replace h := if_t h hc
        exact w_X12_isHere_61 C w1 n1 hw1 x2 S2 h _ _ _ hR (lv_sub hl [0, 1, 2] rfl)
      · replace h := if_f h hc
        obtain ⟨v3, e3, h⟩ := le1_ok h
        refine lv_iinc (v := v3) (lv' := [(2, .int v3), (0, .ref (E.2.1 0)), (1, .ref (E.2.1 w1))]) C.1 C.2.1 dX12_isHere_55 hl (k := 2) rfl (by rw [e3]; rfl) (by decide) rfl (fun ls hl => ?_)
        refine lv_goto (tgt := 35) C.1 C.2.1 dX12_isHere_58 (by decide) ?_
        exact ih v3 S2 h _ _ _ hR (lv_sub hl [1, 2, 0] rfl)
def f_X12_isHere (w1 : Nat) (n1 : Nat) (S : Hp) : Option (Int32 × Hp) :=
  if (S.1 0 5) = 0 then ob2 (f_X12_look0 S) (fun r1 S1 => ob2 (f_X12_isLetter r1 S1) (fun r2 S2 => if r2 = 0 then some ((0 : Int32), S2) else if (S2.1 0 2) = (S2.1 0 4) then some ((0 : Int32), S2) else le1 (S2.1 0 2) (fun v3 => f_X12_isHere_35 w1 n1 5000 v3 S2))) else some ((0 : Int32), S)
set_option maxHeartbeats 4000000 in
set_option maxRecDepth 100000 in
theorem c_X12_isHere (l : Launch) (E : Ev) (w1 : Nat) (n1 : Nat) (hw1 : w1 ∈ yM.1 ∧ yM.2.1 w1 = (3, n1)) (S : Hp) (r : (Int32 × Hp)) (h : f_X12_isHere w1 n1 S = some r) : ho_M l yM E yX12_isHere cX12_isHere 4 (some .boolean) 1 [.ref (E.2.1 0), .ref (E.2.1 w1)] S (some (.int r.1), r.2) := by
  refine ho_in (by decide) (Nat.le_of_ble_eq_true rfl) ?_
  intro p e s m args below meth c C hR ls hl
  have C : ho_I p s m args meth c RX12 cX12_isHere 4 (some .boolean) := C
  have hl : lv_has ls 4 [(0, .ref (E.2.1 0)), (1, .ref (E.2.1 w1))] := hl
  unfold f_X12_isHere at h
  refine lv_aload_n C.1 C.2.1 dX12_isHere_0 rfl (lv_at hl 0 rfl) ?_
  refine ho_getI C cf12 fM_264 hR aM_0 dX12_isHere_1 ?_
  refine lv_if_ne (tgt := 28) C.1 C.2.1 dX12_isHere_4 (by decide) (fun hc => ?_) (fun hc => ?_)
  · replace h := if_f h hc
    refine lv_iconst (v := (0 : Int32)) C.1 C.2.1 dX12_isHere_28 (by decide) ?_
    exact ho_zret C hR (Or.inl rfl) h dX12_isHere_29
  · replace h := if_t h hc
    refine lv_aload_n C.1 C.2.1 dX12_isHere_7 rfl (lv_at hl 0 rfl) ?_
    obtain ⟨r1, S1, h1, h⟩ := ob2_ok h
    refine hr_Vi (v := r1) (S' := S1) (As := []) (rest := []) C cf12 (c_X12_look0 l E _ _ h1) yv_X12_look0 lk_RX12_276 rfl aM_0 rfl rfl hl.1 (Nat.le_of_ble_eq_true rfl) (by decide) (by decide) hR (ho_A hR) dX12_isHere_8 (fun H locs hR => ?_)
    obtain ⟨r2, S2, h2, h⟩ := ob2_ok h
    refine hr_Si (v := r2) (S' := S2) (As := [.int r1]) (rest := []) C (c_X12_isLetter l E r1 _ _ h2) ys_X12_isLetter lk_RX12_280 rfl rfl hl.1 (Nat.le_of_ble_eq_true rfl) (by decide) (by decide) hR (ho_A hR) dX12_isHere_11 (fun H locs hR => ?_)
    refine lv_if_eq (tgt := 28) C.1 C.2.1 dX12_isHere_14 (by decide) (fun hc => ?_) (fun hc => ?_)
    · replace h := if_t h hc
      refine lv_iconst (v := (0 : Int32)) C.1 C.2.1 dX12_isHere_28 (by decide) ?_
      exact ho_zret C hR (Or.inl rfl) h dX12_isHere_29
    · replace h := if_f h hc
      refine lv_aload_n C.1 C.2.1 dX12_isHere_17 rfl (lv_at hl 0 rfl) ?_
      refine ho_getI C cf12 fM_270 hR aM_0 dX12_isHere_18 ?_
      refine lv_aload_n C.1 C.2.1 dX12_isHere_21 rfl (lv_at hl 0 rfl) ?_
      refine ho_getI C cf12 fM_284 hR aM_0 dX12_isHere_22 ?_
      refine lv_icmp_ne (tgt := 30) C.1 C.2.1 dX12_isHere_25 (by decide) (fun hc => ?_) (fun hc => ?_)
      · replace h := if_f h hc
        refine lv_aload_n C.1 C.2.1 dX12_isHere_30 rfl (lv_at hl 0 rfl) ?_
        refine ho_getI C cf12 fM_270 hR aM_0 dX12_isHere_31 ?_
        refine lv_topi (fun v3 e3 => ?_)
        replace h := le1_at e3 h
        refine lv_istore_n (lv' := [(2, .int v3), (0, .ref (E.2.1 0)), (1, .ref (E.2.1 w1))]) C.1 C.2.1 dX12_isHere_34 rfl hl (by decide) rfl (fun ls hl => ?_)
        exact w_X12_isHere_35 C w1 n1 hw1 5000 v3 S2 h _ _ _ hR (lv_sub hl [1, 2, 0] rfl)
      · replace h := if_t h hc
        refine lv_iconst (v := (0 : Int32)) C.1 C.2.1 dX12_isHere_28 (by decide) ?_
        exact ho_zret C hR (Or.inl rfl) h dX12_isHere_29
theorem dX12_takes_0 : decode cX12_takes 0 = .ok (.aload_n 0, 1) := by decide +kernel
theorem dX12_takes_1 : decode cX12_takes 1 = .ok (.aload_n 1, 1) := by decide +kernel
theorem dX12_takes_2 : decode cX12_takes 2 = .ok (.invokevirtual 287, 3) := by decide +kernel
theorem dX12_takes_5 : decode cX12_takes 5 = .ok (.ifCond .ne 5, 3) := by decide +kernel
theorem dX12_takes_8 : decode cX12_takes 8 = .ok (.iconst 0, 1) := by decide +kernel
theorem dX12_takes_9 : decode cX12_takes 9 = .ok (.ireturn, 1) := by decide +kernel
theorem dX12_takes_10 : decode cX12_takes 10 = .ok (.aload_n 0, 1) := by decide +kernel
theorem dX12_takes_11 : decode cX12_takes 11 = .ok (.dup, 1) := by decide +kernel
theorem dX12_takes_12 : decode cX12_takes 12 = .ok (.getfield 270, 3) := by decide +kernel
theorem dX12_takes_15 : decode cX12_takes 15 = .ok (.aload_n 1, 1) := by decide +kernel
theorem dX12_takes_16 : decode cX12_takes 16 = .ok (.arraylength, 1) := by decide +kernel
theorem dX12_takes_17 : decode cX12_takes 17 = .ok (.iadd, 1) := by decide +kernel
theorem dX12_takes_18 : decode cX12_takes 18 = .ok (.putfield 270, 3) := by decide +kernel
theorem dX12_takes_21 : decode cX12_takes 21 = .ok (.aload_n 0, 1) := by decide +kernel
theorem dX12_takes_22 : decode cX12_takes 22 = .ok (.aload_n 0, 1) := by decide +kernel
theorem dX12_takes_23 : decode cX12_takes 23 = .ok (.getfield 270, 3) := by decide +kernel
theorem dX12_takes_26 : decode cX12_takes 26 = .ok (.putfield 284, 3) := by decide +kernel
theorem dX12_takes_29 : decode cX12_takes 29 = .ok (.iconst 1, 1) := by decide +kernel
theorem dX12_takes_30 : decode cX12_takes 30 = .ok (.ireturn, 1) := by decide +kernel
def f_X12_takes (w1 : Nat) (n1 : Nat) (S : Hp) : Option (Int32 × Hp) :=
  ob2 (f_X12_isHere w1 n1 S) (fun r1 S1 => if r1 = 0 then some ((0 : Int32), S1) else le1 (ho_sI S1 0 2 ((S1.1 0 2) + (Int32.ofNat n1))) (fun S2 => le1 (ho_sI S2 0 4 (S2.1 0 2)) (fun S3 => some ((1 : Int32), S3))))
set_option maxHeartbeats 4000000 in
set_option maxRecDepth 100000 in
theorem c_X12_takes (l : Launch) (E : Ev) (w1 : Nat) (n1 : Nat) (hw1 : w1 ∈ yM.1 ∧ yM.2.1 w1 = (3, n1)) (S : Hp) (r : (Int32 × Hp)) (h : f_X12_takes w1 n1 S = some r) : ho_M l yM E yX12_takes cX12_takes 2 (some .boolean) 2 [.ref (E.2.1 0), .ref (E.2.1 w1)] S (some (.int r.1), r.2) := by
  refine ho_in (by decide) (Nat.le_of_ble_eq_true rfl) ?_
  intro p e s m args below meth c C hR ls hl
  have C : ho_I p s m args meth c RX12 cX12_takes 2 (some .boolean) := C
  have hl : lv_has ls 2 [(0, .ref (E.2.1 0)), (1, .ref (E.2.1 w1))] := hl
  unfold f_X12_takes at h
  refine lv_aload_n C.1 C.2.1 dX12_takes_0 rfl (lv_at hl 0 rfl) ?_
  refine lv_aload_n C.1 C.2.1 dX12_takes_1 rfl (lv_at hl 1 rfl) ?_
  obtain ⟨r1, S1, h1, h⟩ := ob2_ok h
  refine hr_Vi (v := r1) (S' := S1) (As := [.ref (E.2.1 w1)]) (rest := []) C cf12 (c_X12_isHere l E w1 n1 hw1 _ _ h1) yv_X12_isHere lk_RX12_287 rfl aM_0 rfl rfl hl.1 (Nat.le_of_ble_eq_true rfl) (by decide) (by decide) hR (ho_A hR) dX12_takes_2 (fun H locs hR => ?_)
  refine lv_if_ne (tgt := 10) C.1 C.2.1 dX12_takes_5 (by decide) (fun hc => ?_) (fun hc => ?_)
  · replace h := if_f h hc
    refine lv_aload_n C.1 C.2.1 dX12_takes_10 rfl (lv_at hl 0 rfl) ?_
    refine lv_dup C.1 C.2.1 dX12_takes_11 rfl ?_
    refine ho_getI C cf12 fM_270 hR aM_0 dX12_takes_12 ?_
    refine lv_aload_n C.1 C.2.1 dX12_takes_15 rfl (lv_at hl 1 rfl) ?_
    refine ho_alen (by decide) C hR hw1 dX12_takes_16 ?_
    refine lv_iadd C.1 C.2.1 dX12_takes_17 ?_
    obtain ⟨S2, e2, h⟩ := le1_ok h
    refine hr_putI C cf12 fM_270 hR aM_0 e2 dX12_takes_18 (fun H locs hR => ?_)
    refine lv_aload_n C.1 C.2.1 dX12_takes_21 rfl (lv_at hl 0 rfl) ?_
    refine lv_aload_n C.1 C.2.1 dX12_takes_22 rfl (lv_at hl 0 rfl) ?_
    refine ho_getI C cf12 fM_270 hR aM_0 dX12_takes_23 ?_
    obtain ⟨S3, e3, h⟩ := le1_ok h
    refine hr_putI C cf12 fM_284 hR aM_0 e3 dX12_takes_26 (fun H locs hR => ?_)
    refine lv_iconst (v := (1 : Int32)) C.1 C.2.1 dX12_takes_29 (by decide) ?_
    exact ho_zret C hR (Or.inr rfl) h dX12_takes_30
  · replace h := if_t h hc
    refine lv_iconst (v := (0 : Int32)) C.1 C.2.1 dX12_takes_8 (by decide) ?_
    exact ho_zret C hR (Or.inl rfl) h dX12_takes_9
theorem dX12_asks_0 : decode cX12_asks 0 = .ok (.aload_n 0, 1) := by decide +kernel
theorem dX12_asks_1 : decode cX12_asks 1 = .ok (.getfield 264, 3) := by decide +kernel
theorem dX12_asks_4 : decode cX12_asks 4 = .ok (.ifCond .ne 20, 3) := by decide +kernel
theorem dX12_asks_7 : decode cX12_asks 7 = .ok (.aload_n 0, 1) := by decide +kernel
theorem dX12_asks_8 : decode cX12_asks 8 = .ok (.aload_n 1, 1) := by decide +kernel
theorem dX12_asks_9 : decode cX12_asks 9 = .ok (.invokevirtual 291, 3) := by decide +kernel
theorem dX12_asks_12 : decode cX12_asks 12 = .ok (.ifCond .ne 12, 3) := by decide +kernel
theorem dX12_asks_15 : decode cX12_asks 15 = .ok (.aload_n 0, 1) := by decide +kernel
theorem dX12_asks_16 : decode cX12_asks 16 = .ok (.iconst 1, 1) := by decide +kernel
theorem dX12_asks_17 : decode cX12_asks 17 = .ok (.aload_n 0, 1) := by decide +kernel
theorem dX12_asks_18 : decode cX12_asks 18 = .ok (.getfield 270, 3) := by decide +kernel
theorem dX12_asks_21 : decode cX12_asks 21 = .ok (.invokevirtual 294, 3) := by decide +kernel
theorem dX12_asks_24 : decode cX12_asks 24 = .ok (.return_, 1) := by decide +kernel
def f_X12_asks (w1 : Nat) (n1 : Nat) (S : Hp) : Option Hp :=
  if (S.1 0 5) = 0 then ob2 (f_X12_takes w1 n1 S) (fun r1 S1 => if r1 = 0 then ob (f_X12_fail (1 : Int32) (S1.1 0 2) S1) (fun S2 => some S2) else some S1) else some S
set_option maxHeartbeats 4000000 in
set_option maxRecDepth 100000 in
theorem c_X12_asks (l : Launch) (E : Ev) (w1 : Nat) (n1 : Nat) (hw1 : w1 ∈ yM.1 ∧ yM.2.1 w1 = (3, n1)) (S : Hp) (r : Hp) (h : f_X12_asks w1 n1 S = some r) : ho_M l yM E yX12_asks cX12_asks 2 none 3 [.ref (E.2.1 0), .ref (E.2.1 w1)] S (none, r) := by
  refine ho_in (by decide) (Nat.le_of_ble_eq_true rfl) ?_
  intro p e s m args below meth c C hR ls hl
  have C : ho_I p s m args meth c RX12 cX12_asks 2 none := C
  have hl : lv_has ls 2 [(0, .ref (E.2.1 0)), (1, .ref (E.2.1 w1))] := hl
  unfold f_X12_asks at h
  refine lv_aload_n C.1 C.2.1 dX12_asks_0 rfl (lv_at hl 0 rfl) ?_
  refine ho_getI C cf12 fM_264 hR aM_0 dX12_asks_1 ?_
  refine lv_if_ne (tgt := 24) C.1 C.2.1 dX12_asks_4 (by decide) (fun hc => ?_) (fun hc => ?_)
  · replace h := if_f h hc
    exact ho_vret C hR h dX12_asks_24
  · replace h := if_t h hc
    refine lv_aload_n C.1 C.2.1 dX12_asks_7 rfl (lv_at hl 0 rfl) ?_
    refine lv_aload_n C.1 C.2.1 dX12_asks_8 rfl (lv_at hl 1 rfl) ?_
    obtain ⟨r1, S1, h1, h⟩ := ob2_ok h
    refine hr_Vi (v := r1) (S' := S1) (As := [.ref (E.2.1 w1)]) (rest := []) C cf12 (c_X12_takes l E w1 n1 hw1 _ _ h1) yv_X12_takes lk_RX12_291 rfl aM_0 rfl rfl hl.1 (Nat.le_of_ble_eq_true rfl) (by decide) (by decide) hR (ho_A hR) dX12_asks_9 (fun H locs hR => ?_)
    refine lv_if_ne (tgt := 24) C.1 C.2.1 dX12_asks_12 (by decide) (fun hc => ?_) (fun hc => ?_)
    · replace h := if_f h hc
      exact ho_vret C hR h dX12_asks_24
    · replace h := if_t h hc
      refine lv_aload_n C.1 C.2.1 dX12_asks_15 rfl (lv_at hl 0 rfl) ?_
      refine lv_iconst (v := (1 : Int32)) C.1 C.2.1 dX12_asks_16 (by decide) ?_
      refine lv_aload_n C.1 C.2.1 dX12_asks_17 rfl (lv_at hl 0 rfl) ?_
      refine ho_getI C cf12 fM_270 hR aM_0 dX12_asks_18 ?_
      obtain ⟨S2, h2, h⟩ := ob_ok h
      refine hr_Vv (S' := S2) (As := [.int (1 : Int32), .int (S1.1 0 2)]) (rest := []) C cf12 (c_X12_fail l E (1 : Int32) (S1.1 0 2) _ _ h2) yv_X12_fail lk_RX12_294 rfl aM_0 rfl rfl hl.1 (Nat.le_of_ble_eq_true rfl) (by decide) (by decide) hR (ho_A hR) dX12_asks_21 (fun H locs hR => ?_)
      exact ho_vret C hR h dX12_asks_24
theorem dX12_takesSign_0 : decode cX12_takesSign 0 = .ok (.aload_n 0, 1) := by decide +kernel
theorem dX12_takesSign_1 : decode cX12_takesSign 1 = .ok (.getfield 264, 3) := by decide +kernel
theorem dX12_takesSign_4 : decode cX12_takesSign 4 = .ok (.ifCond .ne 11, 3) := by decide +kernel
theorem dX12_takesSign_7 : decode cX12_takesSign 7 = .ok (.aload_n 0, 1) := by decide +kernel
theorem dX12_takesSign_8 : decode cX12_takesSign 8 = .ok (.invokevirtual 276, 3) := by decide +kernel
theorem dX12_takesSign_11 : decode cX12_takesSign 11 = .ok (.iload_n 1, 1) := by decide +kernel
theorem dX12_takesSign_12 : decode cX12_takesSign 12 = .ok (.if_icmp .eq 5, 3) := by decide +kernel
theorem dX12_takesSign_15 : decode cX12_takesSign 15 = .ok (.iconst 0, 1) := by decide +kernel
theorem dX12_takesSign_16 : decode cX12_takesSign 16 = .ok (.ireturn, 1) := by decide +kernel
theorem dX12_takesSign_17 : decode cX12_takesSign 17 = .ok (.aload_n 0, 1) := by decide +kernel
theorem dX12_takesSign_18 : decode cX12_takesSign 18 = .ok (.dup, 1) := by decide +kernel
theorem dX12_takesSign_19 : decode cX12_takesSign 19 = .ok (.getfield 270, 3) := by decide +kernel
theorem dX12_takesSign_22 : decode cX12_takesSign 22 = .ok (.iconst 1, 1) := by decide +kernel
theorem dX12_takesSign_23 : decode cX12_takesSign 23 = .ok (.iadd, 1) := by decide +kernel
theorem dX12_takesSign_24 : decode cX12_takesSign 24 = .ok (.putfield 270, 3) := by decide +kernel
theorem dX12_takesSign_27 : decode cX12_takesSign 27 = .ok (.iconst 1, 1) := by decide +kernel
theorem dX12_takesSign_28 : decode cX12_takesSign 28 = .ok (.ireturn, 1) := by decide +kernel
def f_X12_takesSign (x1 : Int32) (S : Hp) : Option (Int32 × Hp) :=
  if (S.1 0 5) = 0 then ob2 (f_X12_look0 S) (fun r1 S1 => if r1 = x1 then le1 (ho_sI S1 0 2 ((S1.1 0 2) + (1 : Int32))) (fun S2 => some ((1 : Int32), S2)) else some ((0 : Int32), S1)) else some ((0 : Int32), S)
set_option maxHeartbeats 4000000 in
set_option maxRecDepth 100000 in
theorem c_X12_takesSign (l : Launch) (E : Ev) (x1 : Int32) (S : Hp) (r : (Int32 × Hp)) (h : f_X12_takesSign x1 S = some r) : ho_M l yM E yX12_takesSign cX12_takesSign 2 (some .boolean) 1 [.ref (E.2.1 0), .int x1] S (some (.int r.1), r.2) := by
  refine ho_in (by decide) (Nat.le_of_ble_eq_true rfl) ?_
  intro p e s m args below meth c C hR ls hl
  have C : ho_I p s m args meth c RX12 cX12_takesSign 2 (some .boolean) := C
  have hl : lv_has ls 2 [(0, .ref (E.2.1 0)), (1, .int x1)] := hl
  unfold f_X12_takesSign at h
  refine lv_aload_n C.1 C.2.1 dX12_takesSign_0 rfl (lv_at hl 0 rfl) ?_
  refine ho_getI C cf12 fM_264 hR aM_0 dX12_takesSign_1 ?_
  refine lv_if_ne (tgt := 15) C.1 C.2.1 dX12_takesSign_4 (by decide) (fun hc => ?_) (fun hc => ?_)
  · replace h := if_f h hc
    refine lv_iconst (v := (0 : Int32)) C.1 C.2.1 dX12_takesSign_15 (by decide) ?_
    exact ho_zret C hR (Or.inl rfl) h dX12_takesSign_16
  · replace h := if_t h hc
    refine lv_aload_n C.1 C.2.1 dX12_takesSign_7 rfl (lv_at hl 0 rfl) ?_
    obtain ⟨r1, S1, h1, h⟩ := ob2_ok h
    refine hr_Vi (v := r1) (S' := S1) (As := []) (rest := []) C cf12 (c_X12_look0 l E _ _ h1) yv_X12_look0 lk_RX12_276 rfl aM_0 rfl rfl hl.1 (Nat.le_of_ble_eq_true rfl) (by decide) (by decide) hR (ho_A hR) dX12_takesSign_8 (fun H locs hR => ?_)
    refine lv_iload_n C.1 C.2.1 dX12_takesSign_11 rfl (lv_at hl 1 rfl) ?_
    refine lv_icmp_eq (tgt := 17) C.1 C.2.1 dX12_takesSign_12 (by decide) (fun hc => ?_) (fun hc => ?_)
    · replace h := if_t h hc
      refine lv_aload_n C.1 C.2.1 dX12_takesSign_17 rfl (lv_at hl 0 rfl) ?_
      refine lv_dup C.1 C.2.1 dX12_takesSign_18 rfl ?_
      refine ho_getI C cf12 fM_270 hR aM_0 dX12_takesSign_19 ?_
      refine lv_iconst (v := (1 : Int32)) C.1 C.2.1 dX12_takesSign_22 (by decide) ?_
      refine lv_iadd C.1 C.2.1 dX12_takesSign_23 ?_
      obtain ⟨S2, e2, h⟩ := le1_ok h
      refine hr_putI C cf12 fM_270 hR aM_0 e2 dX12_takesSign_24 (fun H locs hR => ?_)
      refine lv_iconst (v := (1 : Int32)) C.1 C.2.1 dX12_takesSign_27 (by decide) ?_
      exact ho_zret C hR (Or.inr rfl) h dX12_takesSign_28
    · replace h := if_f h hc
      refine lv_iconst (v := (0 : Int32)) C.1 C.2.1 dX12_takesSign_15 (by decide) ?_
      exact ho_zret C hR (Or.inl rfl) h dX12_takesSign_16
theorem dX12_asksSign_0 : decode cX12_asksSign 0 = .ok (.aload_n 0, 1) := by decide +kernel
theorem dX12_asksSign_1 : decode cX12_asksSign 1 = .ok (.getfield 264, 3) := by decide +kernel
theorem dX12_asksSign_4 : decode cX12_asksSign 4 = .ok (.ifCond .ne 20, 3) := by decide +kernel
theorem dX12_asksSign_7 : decode cX12_asksSign 7 = .ok (.aload_n 0, 1) := by decide +kernel
theorem dX12_asksSign_8 : decode cX12_asksSign 8 = .ok (.iload_n 1, 1) := by decide +kernel
theorem dX12_asksSign_9 : decode cX12_asksSign 9 = .ok (.invokevirtual 298, 3) := by decide +kernel
theorem dX12_asksSign_12 : decode cX12_asksSign 12 = .ok (.ifCond .ne 12, 3) := by decide +kernel
theorem dX12_asksSign_15 : decode cX12_asksSign 15 = .ok (.aload_n 0, 1) := by decide +kernel
theorem dX12_asksSign_16 : decode cX12_asksSign 16 = .ok (.iconst 1, 1) := by decide +kernel
theorem dX12_asksSign_17 : decode cX12_asksSign 17 = .ok (.aload_n 0, 1) := by decide +kernel
theorem dX12_asksSign_18 : decode cX12_asksSign 18 = .ok (.getfield 270, 3) := by decide +kernel
theorem dX12_asksSign_21 : decode cX12_asksSign 21 = .ok (.invokevirtual 294, 3) := by decide +kernel
theorem dX12_asksSign_24 : decode cX12_asksSign 24 = .ok (.return_, 1) := by decide +kernel
def f_X12_asksSign (x1 : Int32) (S : Hp) : Option Hp :=
  if (S.1 0 5) = 0 then ob2 (f_X12_takesSign x1 S) (fun r1 S1 => if r1 = 0 then ob (f_X12_fail (1 : Int32) (S1.1 0 2) S1) (fun S2 => some S2) else some S1) else some S
set_option maxHeartbeats 4000000 in
set_option maxRecDepth 100000 in
theorem c_X12_asksSign (l : Launch) (E : Ev) (x1 : Int32) (S : Hp) (r : Hp) (h : f_X12_asksSign x1 S = some r) : ho_M l yM E yX12_asksSign cX12_asksSign 2 none 2 [.ref (E.2.1 0), .int x1] S (none, r) := by
  refine ho_in (by decide) (Nat.le_of_ble_eq_true rfl) ?_
  intro p e s m args below meth c C hR ls hl
  have C : ho_I p s m args meth c RX12 cX12_asksSign 2 none := C
  have hl : lv_has ls 2 [(0, .ref (E.2.1 0)), (1, .int x1)] := hl
  unfold f_X12_asksSign at h
  refine lv_aload_n C.1 C.2.1 dX12_asksSign_0 rfl (lv_at hl 0 rfl) ?_
  refine ho_getI C cf12 fM_264 hR aM_0 dX12_asksSign_1 ?_
  refine lv_if_ne (tgt := 24) C.1 C.2.1 dX12_asksSign_4 (by decide) (fun hc => ?_) (fun hc => ?_)
  · replace h := if_f h hc
    exact ho_vret C hR h dX12_asksSign_24
  · replace h := if_t h hc
    refine lv_aload_n C.1 C.2.1 dX12_asksSign_7 rfl (lv_at hl 0 rfl) ?_
    refine lv_iload_n C.1 C.2.1 dX12_asksSign_8 rfl (lv_at hl 1 rfl) ?_
    obtain ⟨r1, S1, h1, h⟩ := ob2_ok h
    refine hr_Vi (v := r1) (S' := S1) (As := [.int x1]) (rest := []) C cf12 (c_X12_takesSign l E x1 _ _ h1) yv_X12_takesSign lk_RX12_298 rfl aM_0 rfl rfl hl.1 (Nat.le_of_ble_eq_true rfl) (by decide) (by decide) hR (ho_A hR) dX12_asksSign_9 (fun H locs hR => ?_)
    refine lv_if_ne (tgt := 24) C.1 C.2.1 dX12_asksSign_12 (by decide) (fun hc => ?_) (fun hc => ?_)
    · replace h := if_f h hc
      exact ho_vret C hR h dX12_asksSign_24
    · replace h := if_t h hc
      refine lv_aload_n C.1 C.2.1 dX12_asksSign_15 rfl (lv_at hl 0 rfl) ?_
      refine lv_iconst (v := (1 : Int32)) C.1 C.2.1 dX12_asksSign_16 (by decide) ?_
      refine lv_aload_n C.1 C.2.1 dX12_asksSign_17 rfl (lv_at hl 0 rfl) ?_
      refine ho_getI C cf12 fM_270 hR aM_0 dX12_asksSign_18 ?_
      obtain ⟨S2, h2, h⟩ := ob_ok h
      refine hr_Vv (S' := S2) (As := [.int (1 : Int32), .int (S1.1 0 2)]) (rest := []) C cf12 (c_X12_fail l E (1 : Int32) (S1.1 0 2) _ _ h2) yv_X12_fail lk_RX12_294 rfl aM_0 rfl rfl hl.1 (Nat.le_of_ble_eq_true rfl) (by decide) (by decide) hR (ho_A hR) dX12_asksSign_21 (fun H locs hR => ?_)
      exact ho_vret C hR h dX12_asksSign_24
theorem dX12_number_0 : decode cX12_number 0 = .ok (.aload_n 0, 1) := by decide +kernel
theorem dX12_number_1 : decode cX12_number 1 = .ok (.getfield 264, 3) := by decide +kernel
theorem dX12_number_4 : decode cX12_number 4 = .ok (.ifCond .eq 5, 3) := by decide +kernel
theorem dX12_number_7 : decode cX12_number 7 = .ok (.iconst 0, 1) := by decide +kernel
theorem dX12_number_8 : decode cX12_number 8 = .ok (.ireturn, 1) := by decide +kernel
theorem dX12_number_9 : decode cX12_number 9 = .ok (.aload_n 0, 1) := by decide +kernel
theorem dX12_number_10 : decode cX12_number 10 = .ok (.invokevirtual 276, 3) := by decide +kernel
theorem dX12_number_13 : decode cX12_number 13 = .ok (.invokestatic 301, 3) := by decide +kernel
theorem dX12_number_16 : decode cX12_number 16 = .ok (.ifCond .eq 14, 3) := by decide +kernel
theorem dX12_number_19 : decode cX12_number 19 = .ok (.aload_n 0, 1) := by decide +kernel
theorem dX12_number_20 : decode cX12_number 20 = .ok (.getfield 270, 3) := by decide +kernel
theorem dX12_number_23 : decode cX12_number 23 = .ok (.aload_n 0, 1) := by decide +kernel
theorem dX12_number_24 : decode cX12_number 24 = .ok (.getfield 284, 3) := by decide +kernel
theorem dX12_number_27 : decode cX12_number 27 = .ok (.if_icmp .ne 14, 3) := by decide +kernel
theorem dX12_number_30 : decode cX12_number 30 = .ok (.aload_n 0, 1) := by decide +kernel
theorem dX12_number_31 : decode cX12_number 31 = .ok (.iconst 1, 1) := by decide +kernel
theorem dX12_number_32 : decode cX12_number 32 = .ok (.aload_n 0, 1) := by decide +kernel
theorem dX12_number_33 : decode cX12_number 33 = .ok (.getfield 270, 3) := by decide +kernel
theorem dX12_number_36 : decode cX12_number 36 = .ok (.invokevirtual 294, 3) := by decide +kernel
theorem dX12_number_39 : decode cX12_number 39 = .ok (.iconst 0, 1) := by decide +kernel
theorem dX12_number_40 : decode cX12_number 40 = .ok (.ireturn, 1) := by decide +kernel
theorem dX12_number_41 : decode cX12_number 41 = .ok (.aload_n 0, 1) := by decide +kernel
theorem dX12_number_42 : decode cX12_number 42 = .ok (.getfield 270, 3) := by decide +kernel
theorem dX12_number_45 : decode cX12_number 45 = .ok (.istore_n 3, 1) := by decide +kernel
theorem dX12_number_46 : decode cX12_number 46 = .ok (.iconst 0, 1) := by decide +kernel
theorem dX12_number_47 : decode cX12_number 47 = .ok (.istore 4, 2) := by decide +kernel
theorem dX12_number_49 : decode cX12_number 49 = .ok (.aload_n 0, 1) := by decide +kernel
theorem dX12_number_50 : decode cX12_number 50 = .ok (.getfield 270, 3) := by decide +kernel
theorem dX12_number_53 : decode cX12_number 53 = .ok (.aload_n 0, 1) := by decide +kernel
theorem dX12_number_54 : decode cX12_number 54 = .ok (.getfield 273, 3) := by decide +kernel
theorem dX12_number_57 : decode cX12_number 57 = .ok (.if_icmp .ge 72, 3) := by decide +kernel
theorem dX12_number_60 : decode cX12_number 60 = .ok (.aload_n 0, 1) := by decide +kernel
theorem dX12_number_61 : decode cX12_number 61 = .ok (.getfield 7, 3) := by decide +kernel
theorem dX12_number_64 : decode cX12_number 64 = .ok (.aload_n 0, 1) := by decide +kernel
theorem dX12_number_65 : decode cX12_number 65 = .ok (.getfield 270, 3) := by decide +kernel
theorem dX12_number_68 : decode cX12_number 68 = .ok (.iaload, 1) := by decide +kernel
theorem dX12_number_69 : decode cX12_number 69 = .ok (.invokestatic 301, 3) := by decide +kernel
theorem dX12_number_72 : decode cX12_number 72 = .ok (.ifCond .eq 57, 3) := by decide +kernel
theorem dX12_number_75 : decode cX12_number 75 = .ok (.aload_n 0, 1) := by decide +kernel
theorem dX12_number_76 : decode cX12_number 76 = .ok (.getfield 270, 3) := by decide +kernel
theorem dX12_number_79 : decode cX12_number 79 = .ok (.iload_n 3, 1) := by decide +kernel
theorem dX12_number_80 : decode cX12_number 80 = .ok (.isub, 1) := by decide +kernel
theorem dX12_number_81 : decode cX12_number 81 = .ok (.iconst 4, 1) := by decide +kernel
theorem dX12_number_82 : decode cX12_number 82 = .ok (.if_icmp .ne 14, 3) := by decide +kernel
theorem dX12_number_85 : decode cX12_number 85 = .ok (.aload_n 0, 1) := by decide +kernel
theorem dX12_number_86 : decode cX12_number 86 = .ok (.iconst 1, 1) := by decide +kernel
theorem dX12_number_87 : decode cX12_number 87 = .ok (.aload_n 0, 1) := by decide +kernel
theorem dX12_number_88 : decode cX12_number 88 = .ok (.getfield 270, 3) := by decide +kernel
theorem dX12_number_91 : decode cX12_number 91 = .ok (.invokevirtual 294, 3) := by decide +kernel
theorem dX12_number_94 : decode cX12_number 94 = .ok (.iconst 0, 1) := by decide +kernel
theorem dX12_number_95 : decode cX12_number 95 = .ok (.ireturn, 1) := by decide +kernel
theorem dX12_number_96 : decode cX12_number 96 = .ok (.bipush 10, 2) := by decide +kernel
theorem dX12_number_98 : decode cX12_number 98 = .ok (.iload 4, 2) := by decide +kernel
theorem dX12_number_100 : decode cX12_number 100 = .ok (.imul, 1) := by decide +kernel
theorem dX12_number_101 : decode cX12_number 101 = .ok (.aload_n 0, 1) := by decide +kernel
theorem dX12_number_102 : decode cX12_number 102 = .ok (.getfield 7, 3) := by decide +kernel
theorem dX12_number_105 : decode cX12_number 105 = .ok (.aload_n 0, 1) := by decide +kernel
theorem dX12_number_106 : decode cX12_number 106 = .ok (.getfield 270, 3) := by decide +kernel
theorem dX12_number_109 : decode cX12_number 109 = .ok (.iaload, 1) := by decide +kernel
theorem dX12_number_110 : decode cX12_number 110 = .ok (.iadd, 1) := by decide +kernel
theorem dX12_number_111 : decode cX12_number 111 = .ok (.bipush 48, 2) := by decide +kernel
theorem dX12_number_113 : decode cX12_number 113 = .ok (.isub, 1) := by decide +kernel
theorem dX12_number_114 : decode cX12_number 114 = .ok (.istore 4, 2) := by decide +kernel
theorem dX12_number_116 : decode cX12_number 116 = .ok (.aload_n 0, 1) := by decide +kernel
theorem dX12_number_117 : decode cX12_number 117 = .ok (.dup, 1) := by decide +kernel
theorem dX12_number_118 : decode cX12_number 118 = .ok (.getfield 270, 3) := by decide +kernel
theorem dX12_number_121 : decode cX12_number 121 = .ok (.iconst 1, 1) := by decide +kernel
theorem dX12_number_122 : decode cX12_number 122 = .ok (.iadd, 1) := by decide +kernel
theorem dX12_number_123 : decode cX12_number 123 = .ok (.putfield 270, 3) := by decide +kernel
theorem dX12_number_126 : decode cX12_number 126 = .ok (.goto (-77), 3) := by decide +kernel
theorem dX12_number_129 : decode cX12_number 129 = .ok (.aload_n 0, 1) := by decide +kernel
theorem dX12_number_130 : decode cX12_number 130 = .ok (.aload_n 0, 1) := by decide +kernel
theorem dX12_number_131 : decode cX12_number 131 = .ok (.getfield 270, 3) := by decide +kernel
theorem dX12_number_134 : decode cX12_number 134 = .ok (.putfield 284, 3) := by decide +kernel
theorem dX12_number_137 : decode cX12_number 137 = .ok (.iload 4, 2) := by decide +kernel
theorem dX12_number_139 : decode cX12_number 139 = .ok (.i2l, 1) := by decide +kernel
theorem dX12_number_140 : decode cX12_number 140 = .ok (.iload_n 1, 1) := by decide +kernel
theorem dX12_number_141 : decode cX12_number 141 = .ok (.i2l, 1) := by decide +kernel
theorem dX12_number_142 : decode cX12_number 142 = .ok (.iload_n 2, 1) := by decide +kernel
theorem dX12_number_143 : decode cX12_number 143 = .ok (.i2l, 1) := by decide +kernel
theorem dX12_number_144 : decode cX12_number 144 = .ok (.invokestatic 304, 3) := by decide +kernel
theorem dX12_number_147 : decode cX12_number 147 = .ok (.ifCond .ne 9, 3) := by decide +kernel
theorem dX12_number_150 : decode cX12_number 150 = .ok (.aload_n 0, 1) := by decide +kernel
theorem dX12_number_151 : decode cX12_number 151 = .ok (.iconst 2, 1) := by decide +kernel
theorem dX12_number_152 : decode cX12_number 152 = .ok (.iload_n 3, 1) := by decide +kernel
theorem dX12_number_153 : decode cX12_number 153 = .ok (.invokevirtual 294, 3) := by decide +kernel
theorem dX12_number_156 : decode cX12_number 156 = .ok (.iload 4, 2) := by decide +kernel
theorem dX12_number_158 : decode cX12_number 158 = .ok (.ireturn, 1) := by decide +kernel
def f_X12_number_30 (S : Hp) : Option (Int32 × Hp) :=
  ob (f_X12_fail (1 : Int32) (S.1 0 2) S) (fun S1 => some ((0 : Int32), S1))
set_option maxHeartbeats 4000000 in
set_option maxRecDepth 100000 in
theorem w_X12_number_30 {p : Program} {l : Launch} {e : Env} {s : State} {m : MethodId} {args : Array Value} {below : List Frame} {meth : Method} {c : Code} {E : Ev} {S0 : Hp} {r : (Int32 × Hp)} (C : ho_I p s m args meth c RX12 cX12_number 5 (some .int)) :
    ∀ (S : Hp), f_X12_number_30 S = some r → ho_G p l e s m args below meth c yM E S0 1 5 (some (.int r.1), r.2) 30 [(0, .ref (E.2.1 0))] [] S := by
  intro S h H locs ls hR hl
  unfold f_X12_number_30 at h
  refine lv_aload_n C.1 C.2.1 dX12_number_30 rfl (lv_at hl 0 rfl) ?_
  refine lv_iconst (v := (1 : Int32)) C.1 C.2.1 dX12_number_31 (by decide) ?_
  refine lv_aload_n C.1 C.2.1 dX12_number_32 rfl (lv_at hl 0 rfl) ?_
  refine ho_getI C cf12 fM_270 hR aM_0 dX12_number_33 ?_
  obtain ⟨S1, h1, h⟩ := ob_ok h
  refine hr_Vv (S' := S1) (As := [.int (1 : Int32), .int (S.1 0 2)]) (rest := []) C cf12 (c_X12_fail l E (1 : Int32) (S.1 0 2) _ _ h1) yv_X12_fail lk_RX12_294 rfl aM_0 rfl rfl hl.1 (Nat.le_of_ble_eq_true rfl) (by decide) (by decide) hR (ho_A hR) dX12_number_36 (fun H locs hR => ?_)
  refine lv_iconst (v := (0 : Int32)) C.1 C.2.1 dX12_number_39 (by decide) ?_
  exact ho_iret C hR h dX12_number_40
def f_X12_number_129 (x1 : Int32) (x2 : Int32) (x3 : Int32) (x4 : Int32) (S : Hp) : Option (Int32 × Hp) :=
  le1 (ho_sI S 0 4 (S.1 0 2)) (fun S1 => ob2 (f_X12_isIn (x4.toInt64) (x1.toInt64) (x2.toInt64) S1) (fun r2 S2 => if r2 = 0 then ob (f_X12_fail (2 : Int32) x3 S2) (fun S3 => some (x4, S3)) else some (x4, S2)))
set_option maxHeartbeats 4000000 in
set_option maxRecDepth 100000 in
theorem w_X12_number_129 {p : Program} {l : Launch} {e : Env} {s : State} {m : MethodId} {args : Array Value} {below : List Frame} {meth : Method} {c : Code} {E : Ev} {S0 : Hp} {r : (Int32 × Hp)} (C : ho_I p s m args meth c RX12 cX12_number 5 (some .int)) :
    ∀ (x1 : Int32) (x2 : Int32) (x3 : Int32) (x4 : Int32) (S : Hp), f_X12_number_129 x1 x2 x3 x4 S = some r → ho_G p l e s m args below meth c yM E S0 1 5 (some (.int r.1), r.2) 129 [(0, .ref (E.2.1 0)), (1, .int x1), (2, .int x2), (3, .int x3), (4, .int x4)] [] S := by
  intro x1 x2 x3 x4 S h H locs ls hR hl
  unfold f_X12_number_129 at h
  refine lv_aload_n C.1 C.2.1 dX12_number_129 rfl (lv_at hl 0 rfl) ?_
  refine lv_aload_n C.1 C.2.1 dX12_number_130 rfl (lv_at hl 0 rfl) ?_
  refine ho_getI C cf12 fM_270 hR aM_0 dX12_number_131 ?_
  obtain ⟨S1, e1, h⟩ := le1_ok h
  refine hr_putI C cf12 fM_284 hR aM_0 e1 dX12_number_134 (fun H locs hR => ?_)
  refine lv_iload C.1 C.2.1 dX12_number_137 (lv_at hl 4 rfl) ?_
  refine lv_i2l (v := (x4.toInt64)) C.1 C.2.1 dX12_number_139 rfl ?_
  refine lv_iload_n C.1 C.2.1 dX12_number_140 rfl (lv_at hl 1 rfl) ?_
  refine lv_i2l (v := (x1.toInt64)) C.1 C.2.1 dX12_number_141 rfl ?_
  refine lv_iload_n C.1 C.2.1 dX12_number_142 rfl (lv_at hl 2 rfl) ?_
  refine lv_i2l (v := (x2.toInt64)) C.1 C.2.1 dX12_number_143 rfl ?_
  obtain ⟨r2, S2, h2, h⟩ := ob2_ok h
  refine hr_Si (v := r2) (S' := S2) (As := [.long (x4.toInt64), .long (x1.toInt64), .long (x2.toInt64)]) (rest := []) C (c_X12_isIn l E (x4.toInt64) (x1.toInt64) (x2.toInt64) _ _ h2) ys_X12_isIn lk_RX12_304 rfl rfl hl.1 (Nat.le_of_ble_eq_true rfl) (by decide) (by decide) hR (ho_A hR) dX12_number_144 (fun H locs hR => ?_)
  refine lv_if_ne (tgt := 156) C.1 C.2.1 dX12_number_147 (by decide) (fun hc => ?_) (fun hc => ?_)
  · replace h := if_f h hc
    refine lv_iload C.1 C.2.1 dX12_number_156 (lv_at hl 4 rfl) ?_
    exact ho_iret C hR h dX12_number_158
  · replace h := if_t h hc
    refine lv_aload_n C.1 C.2.1 dX12_number_150 rfl (lv_at hl 0 rfl) ?_
    refine lv_iconst (v := (2 : Int32)) C.1 C.2.1 dX12_number_151 (by decide) ?_
    refine lv_iload_n C.1 C.2.1 dX12_number_152 rfl (lv_at hl 3 rfl) ?_
    obtain ⟨S3, h3, h⟩ := ob_ok h
    refine hr_Vv (S' := S3) (As := [.int (2 : Int32), .int x3]) (rest := []) C cf12 (c_X12_fail l E (2 : Int32) x3 _ _ h3) yv_X12_fail lk_RX12_294 rfl aM_0 rfl rfl hl.1 (Nat.le_of_ble_eq_true rfl) (by decide) (by decide) hR (ho_A hR) dX12_number_153 (fun H locs hR => ?_)
    refine lv_iload C.1 C.2.1 dX12_number_156 (lv_at hl 4 rfl) ?_
    exact ho_iret C hR h dX12_number_158
def f_X12_number_49 : Nat → Int32 → Int32 → Int32 → Int32 → Hp → Option (Int32 × Hp)
  | 0, _, _, _, _, _ => none
  | k + 1, x1, x2, x3, x4, S => if (S.1 0 3) ≤ (S.1 0 2) then f_X12_number_129 x1 x2 x3 x4 S else ldI S 1 1600 (S.1 0 2) (fun v1 => ob2 (f_X12_isDigit v1 S) (fun r2 S2 => if r2 = 0 then f_X12_number_129 x1 x2 x3 x4 S2 else if ((S2.1 0 2) - x3) = (4 : Int32) then ob (f_X12_fail (1 : Int32) (S2.1 0 2) S2) (fun S6 => some ((0 : Int32), S6)) else ldI S2 1 1600 (S2.1 0 2) (fun v3 => le1 ((((10 : Int32) * x4) + v3) - (48 : Int32)) (fun v4 => le1 (ho_sI S2 0 2 ((S2.1 0 2) + (1 : Int32))) (fun S5 => f_X12_number_49 k x1 x2 x3 v4 S5)))))
set_option maxHeartbeats 4000000 in
set_option maxRecDepth 100000 in
theorem w_X12_number_49 {p : Program} {l : Launch} {e : Env} {s : State} {m : MethodId} {args : Array Value} {below : List Frame} {meth : Method} {c : Code} {E : Ev} {S0 : Hp} {r : (Int32 × Hp)} (C : ho_I p s m args meth c RX12 cX12_number 5 (some .int)) :
    ∀ (k : Nat) (x1 : Int32) (x2 : Int32) (x3 : Int32) (x4 : Int32) (S : Hp), f_X12_number_49 k x1 x2 x3 x4 S = some r → ho_G p l e s m args below meth c yM E S0 1 5 (some (.int r.1), r.2) 49 [(0, .ref (E.2.1 0)), (1, .int x1), (2, .int x2), (3, .int x3), (4, .int x4)] [] S := by
  intro k
  induction k with
  | zero =>
    intro x1 x2 x3 x4 S h
    exact absurd (show (none : Option (Int32 × Hp)) = some r from h) (by simp)
  | succ k ih =>
    intro x1 x2 x3 x4 S h H locs ls hR hl
    rw [f_X12_number_49] at h
    refine lv_aload_n C.1 C.2.1 dX12_number_49 rfl (lv_at hl 0 rfl) ?_
    refine ho_getI C cf12 fM_270 hR aM_0 dX12_number_50 ?_
    refine lv_aload_n C.1 C.2.1 dX12_number_53 rfl (lv_at hl 0 rfl) ?_
    refine ho_getI C cf12 fM_273 hR aM_0 dX12_number_54 ?_
    refine lv_icmp_ge (tgt := 129) C.1 C.2.1 dX12_number_57 (by decide) (fun hc => ?_) (fun hc => ?_)
    · replace h := if_t h hc
      exact w_X12_number_129 C x1 x2 x3 x4 S h _ _ _ hR (lv_sub hl [0, 1, 2, 3, 4] rfl)
    · replace h := if_f h hc
      refine lv_aload_n C.1 C.2.1 dX12_number_60 rfl (lv_at hl 0 rfl) ?_
      refine ho_getR (a' := 1) C cf12 fM_7 hR aM_0 rfl dX12_number_61 ?_
      refine lv_aload_n C.1 C.2.1 dX12_number_64 rfl (lv_at hl 0 rfl) ?_
      refine ho_getI C cf12 fM_270 hR aM_0 dX12_number_65 ?_
      obtain ⟨v1, e1, hi1, h⟩ := ldI_ok h
      refine hr_ild C hR aM_1 hi1 e1 dX12_number_68 ?_
      obtain ⟨r2, S2, h2, h⟩ := ob2_ok h
      refine hr_Si (v := r2) (S' := S2) (As := [.int v1]) (rest := []) C (c_X12_isDigit l E v1 _ _ h2) ys_X12_isDigit lk_RX12_301 rfl rfl hl.1 (Nat.le_of_ble_eq_true rfl) (by decide) (by decide) hR (ho_A hR) dX12_number_69 (fun H locs hR => ?_)
      refine lv_if_eq (tgt := 129) C.1 C.2.1 dX12_number_72 (by decide) (fun hc => ?_) (fun hc => ?_)
      · replace h := if_t h hc
        exact w_X12_number_129 C x1 x2 x3 x4 S2 h _ _ _ hR (lv_sub hl [0, 1, 2, 3, 4] rfl)
      · replace h := if_f h hc
        refine lv_aload_n C.1 C.2.1 dX12_number_75 rfl (lv_at hl 0 rfl) ?_
        refine ho_getI C cf12 fM_270 hR aM_0 dX12_number_76 ?_
        refine lv_iload_n C.1 C.2.1 dX12_number_79 rfl (lv_at hl 3 rfl) ?_
        refine lv_isub C.1 C.2.1 dX12_number_80 ?_
        refine lv_iconst (v := (4 : Int32)) C.1 C.2.1 dX12_number_81 (by decide) ?_
        refine lv_icmp_ne (tgt := 96) C.1 C.2.1 dX12_number_82 (by decide) (fun hc => ?_) (fun hc => ?_)
        · replace h := if_f h hc
          refine lv_bipush (v := (10 : Int32)) C.1 C.2.1 dX12_number_96 (by decide) ?_
          refine lv_iload C.1 C.2.1 dX12_number_98 (lv_at hl 4 rfl) ?_
          refine lv_imul C.1 C.2.1 dX12_number_100 ?_
          refine lv_aload_n C.1 C.2.1 dX12_number_101 rfl (lv_at hl 0 rfl) ?_
          refine ho_getR (a' := 1) C cf12 fM_7 hR aM_0 rfl dX12_number_102 ?_
          refine lv_aload_n C.1 C.2.1 dX12_number_105 rfl (lv_at hl 0 rfl) ?_
          refine ho_getI C cf12 fM_270 hR aM_0 dX12_number_106 ?_
          obtain ⟨v3, e3, hi3, h⟩ := ldI_ok h
          refine hr_ild C hR aM_1 hi3 e3 dX12_number_109 ?_
          refine lv_iadd C.1 C.2.1 dX12_number_110 ?_
          refine lv_bipush (v := (48 : Int32)) C.1 C.2.1 dX12_number_111 (by decide) ?_
          refine lv_isub C.1 C.2.1 dX12_number_113 ?_
          refine lv_topi (fun v4 e4 => ?_)
          replace h := le1_at e4 h
          refine lv_istore (lv' := [(4, .int v4), (0, .ref (E.2.1 0)), (1, .int x1), (2, .int x2), (3, .int x3)]) C.1 C.2.1 dX12_number_114 hl (by decide) rfl (fun ls hl => ?_)
          refine lv_aload_n C.1 C.2.1 dX12_number_116 rfl (lv_at hl 1 rfl) ?_
          refine lv_dup C.1 C.2.1 dX12_number_117 rfl ?_
          refine ho_getI C cf12 fM_270 hR aM_0 dX12_number_118 ?_
          refine lv_iconst (v := (1 : Int32)) C.1 C.2.1 dX12_number_121 (by decide) ?_
          refine lv_iadd C.1 C.2.1 dX12_number_122 ?_
          obtain ⟨S5, e5, h⟩ := le1_ok h
          refine hr_putI C cf12 fM_270 hR aM_0 e5 dX12_number_123 (fun H locs hR => ?_)
          refine lv_goto (tgt := 49) C.1 C.2.1 dX12_number_126 (by decide) ?_
          exact ih x1 x2 x3 v4 S5 h _ _ _ hR (lv_sub hl [1, 2, 3, 4, 0] rfl)
        · replace h := if_t h hc
          refine lv_aload_n C.1 C.2.1 dX12_number_85 rfl (lv_at hl 0 rfl) ?_
          refine lv_iconst (v := (1 : Int32)) C.1 C.2.1 dX12_number_86 (by decide) ?_
          refine lv_aload_n C.1 C.2.1 dX12_number_87 rfl (lv_at hl 0 rfl) ?_
          refine ho_getI C cf12 fM_270 hR aM_0 dX12_number_88 ?_
          obtain ⟨S6, h6, h⟩ := ob_ok h
          refine hr_Vv (S' := S6) (As := [.int (1 : Int32), .int (S2.1 0 2)]) (rest := []) C cf12 (c_X12_fail l E (1 : Int32) (S2.1 0 2) _ _ h6) yv_X12_fail lk_RX12_294 rfl aM_0 rfl rfl hl.1 (Nat.le_of_ble_eq_true rfl) (by decide) (by decide) hR (ho_A hR) dX12_number_91 (fun H locs hR => ?_)
          refine lv_iconst (v := (0 : Int32)) C.1 C.2.1 dX12_number_94 (by decide) ?_
          exact ho_iret C hR h dX12_number_95
def f_X12_number (x1 : Int32) (x2 : Int32) (S : Hp) : Option (Int32 × Hp) :=
  if (S.1 0 5) = 0 then ob2 (f_X12_look0 S) (fun r1 S1 => ob2 (f_X12_isDigit r1 S1) (fun r2 S2 => if r2 = 0 then f_X12_number_30 S2 else if (S2.1 0 2) = (S2.1 0 4) then f_X12_number_30 S2 else le1 (S2.1 0 2) (fun v3 => f_X12_number_49 5000 x1 x2 v3 (0 : Int32) S2))) else some ((0 : Int32), S)
set_option maxHeartbeats 4000000 in
set_option maxRecDepth 100000 in
theorem c_X12_number (l : Launch) (E : Ev) (x1 : Int32) (x2 : Int32) (S : Hp) (r : (Int32 × Hp)) (h : f_X12_number x1 x2 S = some r) : ho_M l yM E yX12_number cX12_number 5 (some .int) 1 [.ref (E.2.1 0), .int x1, .int x2] S (some (.int r.1), r.2) := by
  refine ho_in (by decide) (Nat.le_of_ble_eq_true rfl) ?_
  intro p e s m args below meth c C hR ls hl
  have C : ho_I p s m args meth c RX12 cX12_number 5 (some .int) := C
  have hl : lv_has ls 5 [(0, .ref (E.2.1 0)), (1, .int x1), (2, .int x2)] := hl
  unfold f_X12_number at h
  refine lv_aload_n C.1 C.2.1 dX12_number_0 rfl (lv_at hl 0 rfl) ?_
  refine ho_getI C cf12 fM_264 hR aM_0 dX12_number_1 ?_
  refine lv_if_eq (tgt := 9) C.1 C.2.1 dX12_number_4 (by decide) (fun hc => ?_) (fun hc => ?_)
  · replace h := if_t h hc
    refine lv_aload_n C.1 C.2.1 dX12_number_9 rfl (lv_at hl 0 rfl) ?_
    obtain ⟨r1, S1, h1, h⟩ := ob2_ok h
    refine hr_Vi (v := r1) (S' := S1) (As := []) (rest := []) C cf12 (c_X12_look0 l E _ _ h1) yv_X12_look0 lk_RX12_276 rfl aM_0 rfl rfl hl.1 (Nat.le_of_ble_eq_true rfl) (by decide) (by decide) hR (ho_A hR) dX12_number_10 (fun H locs hR => ?_)
    obtain ⟨r2, S2, h2, h⟩ := ob2_ok h
    refine hr_Si (v := r2) (S' := S2) (As := [.int r1]) (rest := []) C (c_X12_isDigit l E r1 _ _ h2) ys_X12_isDigit lk_RX12_301 rfl rfl hl.1 (Nat.le_of_ble_eq_true rfl) (by decide) (by decide) hR (ho_A hR) dX12_number_13 (fun H locs hR => ?_)
    refine lv_if_eq (tgt := 30) C.1 C.2.1 dX12_number_16 (by decide) (fun hc => ?_) (fun hc => ?_)
    · replace h := if_t h hc
      exact w_X12_number_30 C S2 h _ _ _ hR (lv_sub hl [0] rfl)
    · replace h := if_f h hc
      refine lv_aload_n C.1 C.2.1 dX12_number_19 rfl (lv_at hl 0 rfl) ?_
      refine ho_getI C cf12 fM_270 hR aM_0 dX12_number_20 ?_
      refine lv_aload_n C.1 C.2.1 dX12_number_23 rfl (lv_at hl 0 rfl) ?_
      refine ho_getI C cf12 fM_284 hR aM_0 dX12_number_24 ?_
      refine lv_icmp_ne (tgt := 41) C.1 C.2.1 dX12_number_27 (by decide) (fun hc => ?_) (fun hc => ?_)
      · replace h := if_f h hc
        refine lv_aload_n C.1 C.2.1 dX12_number_41 rfl (lv_at hl 0 rfl) ?_
        refine ho_getI C cf12 fM_270 hR aM_0 dX12_number_42 ?_
        refine lv_topi (fun v3 e3 => ?_)
        replace h := le1_at e3 h
        refine lv_istore_n (lv' := [(3, .int v3), (0, .ref (E.2.1 0)), (1, .int x1), (2, .int x2)]) C.1 C.2.1 dX12_number_45 rfl hl (by decide) rfl (fun ls hl => ?_)
        refine lv_iconst (v := (0 : Int32)) C.1 C.2.1 dX12_number_46 (by decide) ?_
        refine lv_istore (lv' := [(4, .int (0 : Int32)), (3, .int v3), (0, .ref (E.2.1 0)), (1, .int x1), (2, .int x2)]) C.1 C.2.1 dX12_number_47 hl (by decide) rfl (fun ls hl => ?_)
        exact w_X12_number_49 C 5000 x1 x2 v3 (0 : Int32) S2 h _ _ _ hR (lv_sub hl [2, 3, 4, 1, 0] rfl)
      · replace h := if_t h hc
        exact w_X12_number_30 C S2 h _ _ _ hR (lv_sub hl [0] rfl)
  · replace h := if_f h hc
    refine lv_iconst (v := (0 : Int32)) C.1 C.2.1 dX12_number_7 (by decide) ?_
    exact ho_iret C hR h dX12_number_8
theorem dX12_isOwnHere_0 : decode cX12_isOwnHere 0 = .ok (.aload_n 0, 1) := by decide +kernel
theorem dX12_isOwnHere_1 : decode cX12_isOwnHere 1 = .ok (.aload_n 0, 1) := by decide +kernel
theorem dX12_isOwnHere_2 : decode cX12_isOwnHere 2 = .ok (.getfield 20, 3) := by decide +kernel
theorem dX12_isOwnHere_5 : decode cX12_isOwnHere 5 = .ok (.invokevirtual 287, 3) := by decide +kernel
theorem dX12_isOwnHere_8 : decode cX12_isOwnHere 8 = .ok (.ifCond .ne 58, 3) := by decide +kernel
theorem dX12_isOwnHere_11 : decode cX12_isOwnHere 11 = .ok (.aload_n 0, 1) := by decide +kernel
theorem dX12_isOwnHere_12 : decode cX12_isOwnHere 12 = .ok (.aload_n 0, 1) := by decide +kernel
theorem dX12_isOwnHere_13 : decode cX12_isOwnHere 13 = .ok (.getfield 24, 3) := by decide +kernel
theorem dX12_isOwnHere_16 : decode cX12_isOwnHere 16 = .ok (.invokevirtual 287, 3) := by decide +kernel
theorem dX12_isOwnHere_19 : decode cX12_isOwnHere 19 = .ok (.ifCond .ne 47, 3) := by decide +kernel
theorem dX12_isOwnHere_22 : decode cX12_isOwnHere 22 = .ok (.aload_n 0, 1) := by decide +kernel
theorem dX12_isOwnHere_23 : decode cX12_isOwnHere 23 = .ok (.aload_n 0, 1) := by decide +kernel
theorem dX12_isOwnHere_24 : decode cX12_isOwnHere 24 = .ok (.getfield 27, 3) := by decide +kernel
theorem dX12_isOwnHere_27 : decode cX12_isOwnHere 27 = .ok (.invokevirtual 287, 3) := by decide +kernel
theorem dX12_isOwnHere_30 : decode cX12_isOwnHere 30 = .ok (.ifCond .ne 36, 3) := by decide +kernel
theorem dX12_isOwnHere_33 : decode cX12_isOwnHere 33 = .ok (.aload_n 0, 1) := by decide +kernel
theorem dX12_isOwnHere_34 : decode cX12_isOwnHere 34 = .ok (.aload_n 0, 1) := by decide +kernel
theorem dX12_isOwnHere_35 : decode cX12_isOwnHere 35 = .ok (.getfield 30, 3) := by decide +kernel
theorem dX12_isOwnHere_38 : decode cX12_isOwnHere 38 = .ok (.invokevirtual 287, 3) := by decide +kernel
theorem dX12_isOwnHere_41 : decode cX12_isOwnHere 41 = .ok (.ifCond .ne 25, 3) := by decide +kernel
theorem dX12_isOwnHere_44 : decode cX12_isOwnHere 44 = .ok (.aload_n 0, 1) := by decide +kernel
theorem dX12_isOwnHere_45 : decode cX12_isOwnHere 45 = .ok (.aload_n 0, 1) := by decide +kernel
theorem dX12_isOwnHere_46 : decode cX12_isOwnHere 46 = .ok (.getfield 33, 3) := by decide +kernel
theorem dX12_isOwnHere_49 : decode cX12_isOwnHere 49 = .ok (.invokevirtual 287, 3) := by decide +kernel
theorem dX12_isOwnHere_52 : decode cX12_isOwnHere 52 = .ok (.ifCond .ne 14, 3) := by decide +kernel
theorem dX12_isOwnHere_55 : decode cX12_isOwnHere 55 = .ok (.aload_n 0, 1) := by decide +kernel
theorem dX12_isOwnHere_56 : decode cX12_isOwnHere 56 = .ok (.aload_n 0, 1) := by decide +kernel
theorem dX12_isOwnHere_57 : decode cX12_isOwnHere 57 = .ok (.getfield 36, 3) := by decide +kernel
theorem dX12_isOwnHere_60 : decode cX12_isOwnHere 60 = .ok (.invokevirtual 287, 3) := by decide +kernel
theorem dX12_isOwnHere_63 : decode cX12_isOwnHere 63 = .ok (.ifCond .eq 7, 3) := by decide +kernel
theorem dX12_isOwnHere_66 : decode cX12_isOwnHere 66 = .ok (.iconst 1, 1) := by decide +kernel
theorem dX12_isOwnHere_67 : decode cX12_isOwnHere 67 = .ok (.goto 4, 3) := by decide +kernel
theorem dX12_isOwnHere_70 : decode cX12_isOwnHere 70 = .ok (.iconst 0, 1) := by decide +kernel
theorem dX12_isOwnHere_71 : decode cX12_isOwnHere 71 = .ok (.istore_n 1, 1) := by decide +kernel
theorem dX12_isOwnHere_72 : decode cX12_isOwnHere 72 = .ok (.iload_n 1, 1) := by decide +kernel
theorem dX12_isOwnHere_73 : decode cX12_isOwnHere 73 = .ok (.ifCond .ne 69, 3) := by decide +kernel
theorem dX12_isOwnHere_76 : decode cX12_isOwnHere 76 = .ok (.aload_n 0, 1) := by decide +kernel
theorem dX12_isOwnHere_77 : decode cX12_isOwnHere 77 = .ok (.aload_n 0, 1) := by decide +kernel
theorem dX12_isOwnHere_78 : decode cX12_isOwnHere 78 = .ok (.getfield 39, 3) := by decide +kernel
theorem dX12_isOwnHere_81 : decode cX12_isOwnHere 81 = .ok (.invokevirtual 287, 3) := by decide +kernel
theorem dX12_isOwnHere_84 : decode cX12_isOwnHere 84 = .ok (.ifCond .ne 58, 3) := by decide +kernel
theorem dX12_isOwnHere_87 : decode cX12_isOwnHere 87 = .ok (.aload_n 0, 1) := by decide +kernel
theorem dX12_isOwnHere_88 : decode cX12_isOwnHere 88 = .ok (.aload_n 0, 1) := by decide +kernel
theorem dX12_isOwnHere_89 : decode cX12_isOwnHere 89 = .ok (.getfield 42, 3) := by decide +kernel
theorem dX12_isOwnHere_92 : decode cX12_isOwnHere 92 = .ok (.invokevirtual 287, 3) := by decide +kernel
theorem dX12_isOwnHere_95 : decode cX12_isOwnHere 95 = .ok (.ifCond .ne 47, 3) := by decide +kernel
theorem dX12_isOwnHere_98 : decode cX12_isOwnHere 98 = .ok (.aload_n 0, 1) := by decide +kernel
theorem dX12_isOwnHere_99 : decode cX12_isOwnHere 99 = .ok (.aload_n 0, 1) := by decide +kernel
theorem dX12_isOwnHere_100 : decode cX12_isOwnHere 100 = .ok (.getfield 45, 3) := by decide +kernel
theorem dX12_isOwnHere_103 : decode cX12_isOwnHere 103 = .ok (.invokevirtual 287, 3) := by decide +kernel
theorem dX12_isOwnHere_106 : decode cX12_isOwnHere 106 = .ok (.ifCond .ne 36, 3) := by decide +kernel
theorem dX12_isOwnHere_109 : decode cX12_isOwnHere 109 = .ok (.aload_n 0, 1) := by decide +kernel
theorem dX12_isOwnHere_110 : decode cX12_isOwnHere 110 = .ok (.aload_n 0, 1) := by decide +kernel
theorem dX12_isOwnHere_111 : decode cX12_isOwnHere 111 = .ok (.getfield 48, 3) := by decide +kernel
theorem dX12_isOwnHere_114 : decode cX12_isOwnHere 114 = .ok (.invokevirtual 287, 3) := by decide +kernel
theorem dX12_isOwnHere_117 : decode cX12_isOwnHere 117 = .ok (.ifCond .ne 25, 3) := by decide +kernel
theorem dX12_isOwnHere_120 : decode cX12_isOwnHere 120 = .ok (.aload_n 0, 1) := by decide +kernel
theorem dX12_isOwnHere_121 : decode cX12_isOwnHere 121 = .ok (.aload_n 0, 1) := by decide +kernel
theorem dX12_isOwnHere_122 : decode cX12_isOwnHere 122 = .ok (.getfield 51, 3) := by decide +kernel
theorem dX12_isOwnHere_125 : decode cX12_isOwnHere 125 = .ok (.invokevirtual 287, 3) := by decide +kernel
theorem dX12_isOwnHere_128 : decode cX12_isOwnHere 128 = .ok (.ifCond .ne 14, 3) := by decide +kernel
theorem dX12_isOwnHere_131 : decode cX12_isOwnHere 131 = .ok (.aload_n 0, 1) := by decide +kernel
theorem dX12_isOwnHere_132 : decode cX12_isOwnHere 132 = .ok (.aload_n 0, 1) := by decide +kernel
theorem dX12_isOwnHere_133 : decode cX12_isOwnHere 133 = .ok (.getfield 54, 3) := by decide +kernel
theorem dX12_isOwnHere_136 : decode cX12_isOwnHere 136 = .ok (.invokevirtual 287, 3) := by decide +kernel
theorem dX12_isOwnHere_139 : decode cX12_isOwnHere 139 = .ok (.ifCond .eq 7, 3) := by decide +kernel
theorem dX12_isOwnHere_142 : decode cX12_isOwnHere 142 = .ok (.iconst 1, 1) := by decide +kernel
theorem dX12_isOwnHere_143 : decode cX12_isOwnHere 143 = .ok (.goto 4, 3) := by decide +kernel
theorem dX12_isOwnHere_146 : decode cX12_isOwnHere 146 = .ok (.iconst 0, 1) := by decide +kernel
theorem dX12_isOwnHere_147 : decode cX12_isOwnHere 147 = .ok (.istore_n 1, 1) := by decide +kernel
theorem dX12_isOwnHere_148 : decode cX12_isOwnHere 148 = .ok (.iload_n 1, 1) := by decide +kernel
theorem dX12_isOwnHere_149 : decode cX12_isOwnHere 149 = .ok (.ifCond .ne 69, 3) := by decide +kernel
theorem dX12_isOwnHere_152 : decode cX12_isOwnHere 152 = .ok (.aload_n 0, 1) := by decide +kernel
theorem dX12_isOwnHere_153 : decode cX12_isOwnHere 153 = .ok (.aload_n 0, 1) := by decide +kernel
theorem dX12_isOwnHere_154 : decode cX12_isOwnHere 154 = .ok (.getfield 57, 3) := by decide +kernel
theorem dX12_isOwnHere_157 : decode cX12_isOwnHere 157 = .ok (.invokevirtual 287, 3) := by decide +kernel
theorem dX12_isOwnHere_160 : decode cX12_isOwnHere 160 = .ok (.ifCond .ne 58, 3) := by decide +kernel
theorem dX12_isOwnHere_163 : decode cX12_isOwnHere 163 = .ok (.aload_n 0, 1) := by decide +kernel
theorem dX12_isOwnHere_164 : decode cX12_isOwnHere 164 = .ok (.aload_n 0, 1) := by decide +kernel
theorem dX12_isOwnHere_165 : decode cX12_isOwnHere 165 = .ok (.getfield 60, 3) := by decide +kernel
theorem dX12_isOwnHere_168 : decode cX12_isOwnHere 168 = .ok (.invokevirtual 287, 3) := by decide +kernel
theorem dX12_isOwnHere_171 : decode cX12_isOwnHere 171 = .ok (.ifCond .ne 47, 3) := by decide +kernel
theorem dX12_isOwnHere_174 : decode cX12_isOwnHere 174 = .ok (.aload_n 0, 1) := by decide +kernel
theorem dX12_isOwnHere_175 : decode cX12_isOwnHere 175 = .ok (.aload_n 0, 1) := by decide +kernel
theorem dX12_isOwnHere_176 : decode cX12_isOwnHere 176 = .ok (.getfield 63, 3) := by decide +kernel
theorem dX12_isOwnHere_179 : decode cX12_isOwnHere 179 = .ok (.invokevirtual 287, 3) := by decide +kernel
theorem dX12_isOwnHere_182 : decode cX12_isOwnHere 182 = .ok (.ifCond .ne 36, 3) := by decide +kernel
theorem dX12_isOwnHere_185 : decode cX12_isOwnHere 185 = .ok (.aload_n 0, 1) := by decide +kernel
theorem dX12_isOwnHere_186 : decode cX12_isOwnHere 186 = .ok (.aload_n 0, 1) := by decide +kernel
theorem dX12_isOwnHere_187 : decode cX12_isOwnHere 187 = .ok (.getfield 66, 3) := by decide +kernel
theorem dX12_isOwnHere_190 : decode cX12_isOwnHere 190 = .ok (.invokevirtual 287, 3) := by decide +kernel
theorem dX12_isOwnHere_193 : decode cX12_isOwnHere 193 = .ok (.ifCond .ne 25, 3) := by decide +kernel
theorem dX12_isOwnHere_196 : decode cX12_isOwnHere 196 = .ok (.aload_n 0, 1) := by decide +kernel
theorem dX12_isOwnHere_197 : decode cX12_isOwnHere 197 = .ok (.aload_n 0, 1) := by decide +kernel
theorem dX12_isOwnHere_198 : decode cX12_isOwnHere 198 = .ok (.getfield 69, 3) := by decide +kernel
theorem dX12_isOwnHere_201 : decode cX12_isOwnHere 201 = .ok (.invokevirtual 287, 3) := by decide +kernel
theorem dX12_isOwnHere_204 : decode cX12_isOwnHere 204 = .ok (.ifCond .ne 14, 3) := by decide +kernel
theorem dX12_isOwnHere_207 : decode cX12_isOwnHere 207 = .ok (.aload_n 0, 1) := by decide +kernel
theorem dX12_isOwnHere_208 : decode cX12_isOwnHere 208 = .ok (.aload_n 0, 1) := by decide +kernel
theorem dX12_isOwnHere_209 : decode cX12_isOwnHere 209 = .ok (.getfield 72, 3) := by decide +kernel
theorem dX12_isOwnHere_212 : decode cX12_isOwnHere 212 = .ok (.invokevirtual 287, 3) := by decide +kernel
theorem dX12_isOwnHere_215 : decode cX12_isOwnHere 215 = .ok (.ifCond .eq 7, 3) := by decide +kernel
theorem dX12_isOwnHere_218 : decode cX12_isOwnHere 218 = .ok (.iconst 1, 1) := by decide +kernel
theorem dX12_isOwnHere_219 : decode cX12_isOwnHere 219 = .ok (.goto 4, 3) := by decide +kernel
theorem dX12_isOwnHere_222 : decode cX12_isOwnHere 222 = .ok (.iconst 0, 1) := by decide +kernel
theorem dX12_isOwnHere_223 : decode cX12_isOwnHere 223 = .ok (.istore_n 1, 1) := by decide +kernel
theorem dX12_isOwnHere_224 : decode cX12_isOwnHere 224 = .ok (.iload_n 1, 1) := by decide +kernel
theorem dX12_isOwnHere_225 : decode cX12_isOwnHere 225 = .ok (.ifCond .ne 69, 3) := by decide +kernel
theorem dX12_isOwnHere_228 : decode cX12_isOwnHere 228 = .ok (.aload_n 0, 1) := by decide +kernel
theorem dX12_isOwnHere_229 : decode cX12_isOwnHere 229 = .ok (.aload_n 0, 1) := by decide +kernel
theorem dX12_isOwnHere_230 : decode cX12_isOwnHere 230 = .ok (.getfield 75, 3) := by decide +kernel
theorem dX12_isOwnHere_233 : decode cX12_isOwnHere 233 = .ok (.invokevirtual 287, 3) := by decide +kernel
theorem dX12_isOwnHere_236 : decode cX12_isOwnHere 236 = .ok (.ifCond .ne 58, 3) := by decide +kernel
theorem dX12_isOwnHere_239 : decode cX12_isOwnHere 239 = .ok (.aload_n 0, 1) := by decide +kernel
theorem dX12_isOwnHere_240 : decode cX12_isOwnHere 240 = .ok (.aload_n 0, 1) := by decide +kernel
theorem dX12_isOwnHere_241 : decode cX12_isOwnHere 241 = .ok (.getfield 78, 3) := by decide +kernel
theorem dX12_isOwnHere_244 : decode cX12_isOwnHere 244 = .ok (.invokevirtual 287, 3) := by decide +kernel
theorem dX12_isOwnHere_247 : decode cX12_isOwnHere 247 = .ok (.ifCond .ne 47, 3) := by decide +kernel
theorem dX12_isOwnHere_250 : decode cX12_isOwnHere 250 = .ok (.aload_n 0, 1) := by decide +kernel
theorem dX12_isOwnHere_251 : decode cX12_isOwnHere 251 = .ok (.aload_n 0, 1) := by decide +kernel
theorem dX12_isOwnHere_252 : decode cX12_isOwnHere 252 = .ok (.getfield 81, 3) := by decide +kernel
theorem dX12_isOwnHere_255 : decode cX12_isOwnHere 255 = .ok (.invokevirtual 287, 3) := by decide +kernel
theorem dX12_isOwnHere_258 : decode cX12_isOwnHere 258 = .ok (.ifCond .ne 36, 3) := by decide +kernel
theorem dX12_isOwnHere_261 : decode cX12_isOwnHere 261 = .ok (.aload_n 0, 1) := by decide +kernel
theorem dX12_isOwnHere_262 : decode cX12_isOwnHere 262 = .ok (.aload_n 0, 1) := by decide +kernel
theorem dX12_isOwnHere_263 : decode cX12_isOwnHere 263 = .ok (.getfield 84, 3) := by decide +kernel
theorem dX12_isOwnHere_266 : decode cX12_isOwnHere 266 = .ok (.invokevirtual 287, 3) := by decide +kernel
theorem dX12_isOwnHere_269 : decode cX12_isOwnHere 269 = .ok (.ifCond .ne 25, 3) := by decide +kernel
theorem dX12_isOwnHere_272 : decode cX12_isOwnHere 272 = .ok (.aload_n 0, 1) := by decide +kernel
theorem dX12_isOwnHere_273 : decode cX12_isOwnHere 273 = .ok (.aload_n 0, 1) := by decide +kernel
theorem dX12_isOwnHere_274 : decode cX12_isOwnHere 274 = .ok (.getfield 87, 3) := by decide +kernel
theorem dX12_isOwnHere_277 : decode cX12_isOwnHere 277 = .ok (.invokevirtual 287, 3) := by decide +kernel
theorem dX12_isOwnHere_280 : decode cX12_isOwnHere 280 = .ok (.ifCond .ne 14, 3) := by decide +kernel
theorem dX12_isOwnHere_283 : decode cX12_isOwnHere 283 = .ok (.aload_n 0, 1) := by decide +kernel
theorem dX12_isOwnHere_284 : decode cX12_isOwnHere 284 = .ok (.aload_n 0, 1) := by decide +kernel
theorem dX12_isOwnHere_285 : decode cX12_isOwnHere 285 = .ok (.getfield 90, 3) := by decide +kernel
theorem dX12_isOwnHere_288 : decode cX12_isOwnHere 288 = .ok (.invokevirtual 287, 3) := by decide +kernel
theorem dX12_isOwnHere_291 : decode cX12_isOwnHere 291 = .ok (.ifCond .eq 7, 3) := by decide +kernel
theorem dX12_isOwnHere_294 : decode cX12_isOwnHere 294 = .ok (.iconst 1, 1) := by decide +kernel
theorem dX12_isOwnHere_295 : decode cX12_isOwnHere 295 = .ok (.goto 4, 3) := by decide +kernel
theorem dX12_isOwnHere_298 : decode cX12_isOwnHere 298 = .ok (.iconst 0, 1) := by decide +kernel
theorem dX12_isOwnHere_299 : decode cX12_isOwnHere 299 = .ok (.istore_n 1, 1) := by decide +kernel
theorem dX12_isOwnHere_300 : decode cX12_isOwnHere 300 = .ok (.iload_n 1, 1) := by decide +kernel
theorem dX12_isOwnHere_301 : decode cX12_isOwnHere 301 = .ok (.ifCond .ne 58, 3) := by decide +kernel
theorem dX12_isOwnHere_304 : decode cX12_isOwnHere 304 = .ok (.aload_n 0, 1) := by decide +kernel
theorem dX12_isOwnHere_305 : decode cX12_isOwnHere 305 = .ok (.aload_n 0, 1) := by decide +kernel
theorem dX12_isOwnHere_306 : decode cX12_isOwnHere 306 = .ok (.getfield 93, 3) := by decide +kernel
theorem dX12_isOwnHere_309 : decode cX12_isOwnHere 309 = .ok (.invokevirtual 287, 3) := by decide +kernel
theorem dX12_isOwnHere_312 : decode cX12_isOwnHere 312 = .ok (.ifCond .ne 47, 3) := by decide +kernel
theorem dX12_isOwnHere_315 : decode cX12_isOwnHere 315 = .ok (.aload_n 0, 1) := by decide +kernel
theorem dX12_isOwnHere_316 : decode cX12_isOwnHere 316 = .ok (.aload_n 0, 1) := by decide +kernel
theorem dX12_isOwnHere_317 : decode cX12_isOwnHere 317 = .ok (.getfield 96, 3) := by decide +kernel
theorem dX12_isOwnHere_320 : decode cX12_isOwnHere 320 = .ok (.invokevirtual 287, 3) := by decide +kernel
theorem dX12_isOwnHere_323 : decode cX12_isOwnHere 323 = .ok (.ifCond .ne 36, 3) := by decide +kernel
theorem dX12_isOwnHere_326 : decode cX12_isOwnHere 326 = .ok (.aload_n 0, 1) := by decide +kernel
theorem dX12_isOwnHere_327 : decode cX12_isOwnHere 327 = .ok (.aload_n 0, 1) := by decide +kernel
theorem dX12_isOwnHere_328 : decode cX12_isOwnHere 328 = .ok (.getfield 99, 3) := by decide +kernel
theorem dX12_isOwnHere_331 : decode cX12_isOwnHere 331 = .ok (.invokevirtual 287, 3) := by decide +kernel
theorem dX12_isOwnHere_334 : decode cX12_isOwnHere 334 = .ok (.ifCond .ne 25, 3) := by decide +kernel
theorem dX12_isOwnHere_337 : decode cX12_isOwnHere 337 = .ok (.aload_n 0, 1) := by decide +kernel
theorem dX12_isOwnHere_338 : decode cX12_isOwnHere 338 = .ok (.aload_n 0, 1) := by decide +kernel
theorem dX12_isOwnHere_339 : decode cX12_isOwnHere 339 = .ok (.getfield 102, 3) := by decide +kernel
theorem dX12_isOwnHere_342 : decode cX12_isOwnHere 342 = .ok (.invokevirtual 287, 3) := by decide +kernel
theorem dX12_isOwnHere_345 : decode cX12_isOwnHere 345 = .ok (.ifCond .ne 14, 3) := by decide +kernel
theorem dX12_isOwnHere_348 : decode cX12_isOwnHere 348 = .ok (.aload_n 0, 1) := by decide +kernel
theorem dX12_isOwnHere_349 : decode cX12_isOwnHere 349 = .ok (.aload_n 0, 1) := by decide +kernel
theorem dX12_isOwnHere_350 : decode cX12_isOwnHere 350 = .ok (.getfield 105, 3) := by decide +kernel
theorem dX12_isOwnHere_353 : decode cX12_isOwnHere 353 = .ok (.invokevirtual 287, 3) := by decide +kernel
theorem dX12_isOwnHere_356 : decode cX12_isOwnHere 356 = .ok (.ifCond .eq 7, 3) := by decide +kernel
theorem dX12_isOwnHere_359 : decode cX12_isOwnHere 359 = .ok (.iconst 1, 1) := by decide +kernel
theorem dX12_isOwnHere_360 : decode cX12_isOwnHere 360 = .ok (.goto 4, 3) := by decide +kernel
theorem dX12_isOwnHere_363 : decode cX12_isOwnHere 363 = .ok (.iconst 0, 1) := by decide +kernel
theorem dX12_isOwnHere_364 : decode cX12_isOwnHere 364 = .ok (.istore_n 1, 1) := by decide +kernel
theorem dX12_isOwnHere_365 : decode cX12_isOwnHere 365 = .ok (.iload_n 1, 1) := by decide +kernel
theorem dX12_isOwnHere_366 : decode cX12_isOwnHere 366 = .ok (.ireturn, 1) := by decide +kernel
def f_X12_isOwnHere_364 (z0 : Int32) (S : Hp) : Option (Int32 × Hp) :=
  tr z0 (some (z0, S))
set_option maxHeartbeats 4000000 in
set_option maxRecDepth 100000 in
theorem w_X12_isOwnHere_364 {p : Program} {l : Launch} {e : Env} {s : State} {m : MethodId} {args : Array Value} {below : List Frame} {meth : Method} {c : Code} {E : Ev} {S0 : Hp} {r : (Int32 × Hp)} (C : ho_I p s m args meth c RX12 cX12_isOwnHere 2 (some .boolean)) :
    ∀ (z0 : Int32) (S : Hp), f_X12_isOwnHere_364 z0 S = some r → ho_G p l e s m args below meth c yM E S0 2 2 (some (.int r.1), r.2) 364 [] [.int z0] S := by
  intro z0 S h H locs ls hR hl
  unfold f_X12_isOwnHere_364 at h
  refine lv_istore_n (lv' := [(1, .int z0)]) C.1 C.2.1 dX12_isOwnHere_364 rfl hl (by decide) rfl (fun ls hl => ?_)
  refine lv_iload_n C.1 C.2.1 dX12_isOwnHere_365 rfl (lv_at hl 0 rfl) ?_
  obtain ⟨hz, h⟩ := tr_ok h
  exact ho_zret C hR hz h dX12_isOwnHere_366
def f_X12_isOwnHere_359 (S : Hp) : Option (Int32 × Hp) :=
  f_X12_isOwnHere_364 (1 : Int32) S
set_option maxHeartbeats 4000000 in
set_option maxRecDepth 100000 in
theorem w_X12_isOwnHere_359 {p : Program} {l : Launch} {e : Env} {s : State} {m : MethodId} {args : Array Value} {below : List Frame} {meth : Method} {c : Code} {E : Ev} {S0 : Hp} {r : (Int32 × Hp)} (C : ho_I p s m args meth c RX12 cX12_isOwnHere 2 (some .boolean)) :
    ∀ (S : Hp), f_X12_isOwnHere_359 S = some r → ho_G p l e s m args below meth c yM E S0 2 2 (some (.int r.1), r.2) 359 [] [] S := by
  intro S h H locs ls hR hl
  unfold f_X12_isOwnHere_359 at h
  refine lv_iconst (v := (1 : Int32)) C.1 C.2.1 dX12_isOwnHere_359 (by decide) ?_
  refine lv_goto (tgt := 364) C.1 C.2.1 dX12_isOwnHere_360 (by decide) ?_
  exact w_X12_isOwnHere_364 C (1 : Int32) S h _ _ _ hR (lv_sub hl [] rfl)
def f_X12_isOwnHere_299 (z0 : Int32) (S : Hp) : Option (Int32 × Hp) :=
  if z0 = 0 then ob2 (f_X12_isHere 35 3 S) (fun r1 S1 => if r1 = 0 then ob2 (f_X12_isHere 36 3 S1) (fun r2 S2 => if r2 = 0 then ob2 (f_X12_isHere 37 3 S2) (fun r3 S3 => if r3 = 0 then ob2 (f_X12_isHere 38 3 S3) (fun r4 S4 => if r4 = 0 then ob2 (f_X12_isHere 39 3 S4) (fun r5 S5 => if r5 = 0 then f_X12_isOwnHere_364 (0 : Int32) S5 else f_X12_isOwnHere_359 S5) else f_X12_isOwnHere_359 S4) else f_X12_isOwnHere_359 S3) else f_X12_isOwnHere_359 S2) else f_X12_isOwnHere_359 S1) else f_X12_isOwnHere_359 S
set_option maxHeartbeats 4000000 in
set_option maxRecDepth 100000 in
theorem w_X12_isOwnHere_299 {p : Program} {l : Launch} {e : Env} {s : State} {m : MethodId} {args : Array Value} {below : List Frame} {meth : Method} {c : Code} {E : Ev} {S0 : Hp} {r : (Int32 × Hp)} (C : ho_I p s m args meth c RX12 cX12_isOwnHere 2 (some .boolean)) :
    ∀ (z0 : Int32) (S : Hp), f_X12_isOwnHere_299 z0 S = some r → ho_G p l e s m args below meth c yM E S0 2 2 (some (.int r.1), r.2) 299 [(0, .ref (E.2.1 0))] [.int z0] S := by
  intro z0 S h H locs ls hR hl
  unfold f_X12_isOwnHere_299 at h
  refine lv_istore_n (lv' := [(1, .int z0), (0, .ref (E.2.1 0))]) C.1 C.2.1 dX12_isOwnHere_299 rfl hl (by decide) rfl (fun ls hl => ?_)
  refine lv_iload_n C.1 C.2.1 dX12_isOwnHere_300 rfl (lv_at hl 0 rfl) ?_
  refine lv_if_ne (tgt := 359) C.1 C.2.1 dX12_isOwnHere_301 (by decide) (fun hc => ?_) (fun hc => ?_)
  · replace h := if_f h hc
    exact w_X12_isOwnHere_359 C S h _ _ _ hR (lv_sub hl [] rfl)
  · replace h := if_t h hc
    refine lv_aload_n C.1 C.2.1 dX12_isOwnHere_304 rfl (lv_at hl 1 rfl) ?_
    refine lv_aload_n C.1 C.2.1 dX12_isOwnHere_305 rfl (lv_at hl 1 rfl) ?_
    refine ho_getR (a' := 35) C cf12 fM_93 hR aM_0 rfl dX12_isOwnHere_306 ?_
    obtain ⟨r1, S1, h1, h⟩ := ob2_ok h
    refine hr_Vi (v := r1) (S' := S1) (As := [.ref (E.2.1 35)]) (rest := []) C cf12 (c_X12_isHere l E 35 3 aM_35 _ _ h1) yv_X12_isHere lk_RX12_287 rfl aM_0 rfl rfl hl.1 (Nat.le_of_ble_eq_true rfl) (by decide) (by decide) hR (ho_A hR) dX12_isOwnHere_309 (fun H locs hR => ?_)
    refine lv_if_ne (tgt := 359) C.1 C.2.1 dX12_isOwnHere_312 (by decide) (fun hc => ?_) (fun hc => ?_)
    · replace h := if_f h hc
      exact w_X12_isOwnHere_359 C S1 h _ _ _ hR (lv_sub hl [] rfl)
    · replace h := if_t h hc
      refine lv_aload_n C.1 C.2.1 dX12_isOwnHere_315 rfl (lv_at hl 1 rfl) ?_
      refine lv_aload_n C.1 C.2.1 dX12_isOwnHere_316 rfl (lv_at hl 1 rfl) ?_
      refine ho_getR (a' := 36) C cf12 fM_96 hR aM_0 rfl dX12_isOwnHere_317 ?_
      obtain ⟨r2, S2, h2, h⟩ := ob2_ok h
      refine hr_Vi (v := r2) (S' := S2) (As := [.ref (E.2.1 36)]) (rest := []) C cf12 (c_X12_isHere l E 36 3 aM_36 _ _ h2) yv_X12_isHere lk_RX12_287 rfl aM_0 rfl rfl hl.1 (Nat.le_of_ble_eq_true rfl) (by decide) (by decide) hR (ho_A hR) dX12_isOwnHere_320 (fun H locs hR => ?_)
      refine lv_if_ne (tgt := 359) C.1 C.2.1 dX12_isOwnHere_323 (by decide) (fun hc => ?_) (fun hc => ?_)
      · replace h := if_f h hc
        exact w_X12_isOwnHere_359 C S2 h _ _ _ hR (lv_sub hl [] rfl)
      · replace h := if_t h hc
        refine lv_aload_n C.1 C.2.1 dX12_isOwnHere_326 rfl (lv_at hl 1 rfl) ?_
        refine lv_aload_n C.1 C.2.1 dX12_isOwnHere_327 rfl (lv_at hl 1 rfl) ?_
        refine ho_getR (a' := 37) C cf12 fM_99 hR aM_0 rfl dX12_isOwnHere_328 ?_
        obtain ⟨r3, S3, h3, h⟩ := ob2_ok h
        refine hr_Vi (v := r3) (S' := S3) (As := [.ref (E.2.1 37)]) (rest := []) C cf12 (c_X12_isHere l E 37 3 aM_37 _ _ h3) yv_X12_isHere lk_RX12_287 rfl aM_0 rfl rfl hl.1 (Nat.le_of_ble_eq_true rfl) (by decide) (by decide) hR (ho_A hR) dX12_isOwnHere_331 (fun H locs hR => ?_)
        refine lv_if_ne (tgt := 359) C.1 C.2.1 dX12_isOwnHere_334 (by decide) (fun hc => ?_) (fun hc => ?_)
        · replace h := if_f h hc
          exact w_X12_isOwnHere_359 C S3 h _ _ _ hR (lv_sub hl [] rfl)
        · replace h := if_t h hc
          refine lv_aload_n C.1 C.2.1 dX12_isOwnHere_337 rfl (lv_at hl 1 rfl) ?_
          refine lv_aload_n C.1 C.2.1 dX12_isOwnHere_338 rfl (lv_at hl 1 rfl) ?_
          refine ho_getR (a' := 38) C cf12 fM_102 hR aM_0 rfl dX12_isOwnHere_339 ?_
          obtain ⟨r4, S4, h4, h⟩ := ob2_ok h
          refine hr_Vi (v := r4) (S' := S4) (As := [.ref (E.2.1 38)]) (rest := []) C cf12 (c_X12_isHere l E 38 3 aM_38 _ _ h4) yv_X12_isHere lk_RX12_287 rfl aM_0 rfl rfl hl.1 (Nat.le_of_ble_eq_true rfl) (by decide) (by decide) hR (ho_A hR) dX12_isOwnHere_342 (fun H locs hR => ?_)
          refine lv_if_ne (tgt := 359) C.1 C.2.1 dX12_isOwnHere_345 (by decide) (fun hc => ?_) (fun hc => ?_)
          · replace h := if_f h hc
            exact w_X12_isOwnHere_359 C S4 h _ _ _ hR (lv_sub hl [] rfl)
          · replace h := if_t h hc
            refine lv_aload_n C.1 C.2.1 dX12_isOwnHere_348 rfl (lv_at hl 1 rfl) ?_
            refine lv_aload_n C.1 C.2.1 dX12_isOwnHere_349 rfl (lv_at hl 1 rfl) ?_
            refine ho_getR (a' := 39) C cf12 fM_105 hR aM_0 rfl dX12_isOwnHere_350 ?_
            obtain ⟨r5, S5, h5, h⟩ := ob2_ok h
            refine hr_Vi (v := r5) (S' := S5) (As := [.ref (E.2.1 39)]) (rest := []) C cf12 (c_X12_isHere l E 39 3 aM_39 _ _ h5) yv_X12_isHere lk_RX12_287 rfl aM_0 rfl rfl hl.1 (Nat.le_of_ble_eq_true rfl) (by decide) (by decide) hR (ho_A hR) dX12_isOwnHere_353 (fun H locs hR => ?_)
            refine lv_if_eq (tgt := 363) C.1 C.2.1 dX12_isOwnHere_356 (by decide) (fun hc => ?_) (fun hc => ?_)
            · replace h := if_t h hc
              refine lv_iconst (v := (0 : Int32)) C.1 C.2.1 dX12_isOwnHere_363 (by decide) ?_
              exact w_X12_isOwnHere_364 C (0 : Int32) S5 h _ _ _ hR (lv_sub hl [] rfl)
            · replace h := if_f h hc
              exact w_X12_isOwnHere_359 C S5 h _ _ _ hR (lv_sub hl [] rfl)
def f_X12_isOwnHere_294 (S : Hp) : Option (Int32 × Hp) :=
  f_X12_isOwnHere_299 (1 : Int32) S
set_option maxHeartbeats 4000000 in
set_option maxRecDepth 100000 in
theorem w_X12_isOwnHere_294 {p : Program} {l : Launch} {e : Env} {s : State} {m : MethodId} {args : Array Value} {below : List Frame} {meth : Method} {c : Code} {E : Ev} {S0 : Hp} {r : (Int32 × Hp)} (C : ho_I p s m args meth c RX12 cX12_isOwnHere 2 (some .boolean)) :
    ∀ (S : Hp), f_X12_isOwnHere_294 S = some r → ho_G p l e s m args below meth c yM E S0 2 2 (some (.int r.1), r.2) 294 [(0, .ref (E.2.1 0))] [] S := by
  intro S h H locs ls hR hl
  unfold f_X12_isOwnHere_294 at h
  refine lv_iconst (v := (1 : Int32)) C.1 C.2.1 dX12_isOwnHere_294 (by decide) ?_
  refine lv_goto (tgt := 299) C.1 C.2.1 dX12_isOwnHere_295 (by decide) ?_
  exact w_X12_isOwnHere_299 C (1 : Int32) S h _ _ _ hR (lv_sub hl [0] rfl)
def f_X12_isOwnHere_223 (z0 : Int32) (S : Hp) : Option (Int32 × Hp) :=
  if z0 = 0 then ob2 (f_X12_isHere 29 6 S) (fun r1 S1 => if r1 = 0 then ob2 (f_X12_isHere 30 5 S1) (fun r2 S2 => if r2 = 0 then ob2 (f_X12_isHere 31 5 S2) (fun r3 S3 => if r3 = 0 then ob2 (f_X12_isHere 32 4 S3) (fun r4 S4 => if r4 = 0 then ob2 (f_X12_isHere 33 4 S4) (fun r5 S5 => if r5 = 0 then ob2 (f_X12_isHere 34 2 S5) (fun r6 S6 => if r6 = 0 then f_X12_isOwnHere_299 (0 : Int32) S6 else f_X12_isOwnHere_294 S6) else f_X12_isOwnHere_294 S5) else f_X12_isOwnHere_294 S4) else f_X12_isOwnHere_294 S3) else f_X12_isOwnHere_294 S2) else f_X12_isOwnHere_294 S1) else f_X12_isOwnHere_294 S
set_option maxHeartbeats 4000000 in
set_option maxRecDepth 100000 in
theorem w_X12_isOwnHere_223 {p : Program} {l : Launch} {e : Env} {s : State} {m : MethodId} {args : Array Value} {below : List Frame} {meth : Method} {c : Code} {E : Ev} {S0 : Hp} {r : (Int32 × Hp)} (C : ho_I p s m args meth c RX12 cX12_isOwnHere 2 (some .boolean)) :
    ∀ (z0 : Int32) (S : Hp), f_X12_isOwnHere_223 z0 S = some r → ho_G p l e s m args below meth c yM E S0 2 2 (some (.int r.1), r.2) 223 [(0, .ref (E.2.1 0))] [.int z0] S := by
  intro z0 S h H locs ls hR hl
  unfold f_X12_isOwnHere_223 at h
  refine lv_istore_n (lv' := [(1, .int z0), (0, .ref (E.2.1 0))]) C.1 C.2.1 dX12_isOwnHere_223 rfl hl (by decide) rfl (fun ls hl => ?_)
  refine lv_iload_n C.1 C.2.1 dX12_isOwnHere_224 rfl (lv_at hl 0 rfl) ?_
  refine lv_if_ne (tgt := 294) C.1 C.2.1 dX12_isOwnHere_225 (by decide) (fun hc => ?_) (fun hc => ?_)
  · replace h := if_f h hc
    exact w_X12_isOwnHere_294 C S h _ _ _ hR (lv_sub hl [1] rfl)
  · replace h := if_t h hc
    refine lv_aload_n C.1 C.2.1 dX12_isOwnHere_228 rfl (lv_at hl 1 rfl) ?_
    refine lv_aload_n C.1 C.2.1 dX12_isOwnHere_229 rfl (lv_at hl 1 rfl) ?_
    refine ho_getR (a' := 29) C cf12 fM_75 hR aM_0 rfl dX12_isOwnHere_230 ?_
    obtain ⟨r1, S1, h1, h⟩ := ob2_ok h
    refine hr_Vi (v := r1) (S' := S1) (As := [.ref (E.2.1 29)]) (rest := []) C cf12 (c_X12_isHere l E 29 6 aM_29 _ _ h1) yv_X12_isHere lk_RX12_287 rfl aM_0 rfl rfl hl.1 (Nat.le_of_ble_eq_true rfl) (by decide) (by decide) hR (ho_A hR) dX12_isOwnHere_233 (fun H locs hR => ?_)
    refine lv_if_ne (tgt := 294) C.1 C.2.1 dX12_isOwnHere_236 (by decide) (fun hc => ?_) (fun hc => ?_)
    · replace h := if_f h hc
      exact w_X12_isOwnHere_294 C S1 h _ _ _ hR (lv_sub hl [1] rfl)
    · replace h := if_t h hc
      refine lv_aload_n C.1 C.2.1 dX12_isOwnHere_239 rfl (lv_at hl 1 rfl) ?_
      refine lv_aload_n C.1 C.2.1 dX12_isOwnHere_240 rfl (lv_at hl 1 rfl) ?_
      refine ho_getR (a' := 30) C cf12 fM_78 hR aM_0 rfl dX12_isOwnHere_241 ?_
      obtain ⟨r2, S2, h2, h⟩ := ob2_ok h
      refine hr_Vi (v := r2) (S' := S2) (As := [.ref (E.2.1 30)]) (rest := []) C cf12 (c_X12_isHere l E 30 5 aM_30 _ _ h2) yv_X12_isHere lk_RX12_287 rfl aM_0 rfl rfl hl.1 (Nat.le_of_ble_eq_true rfl) (by decide) (by decide) hR (ho_A hR) dX12_isOwnHere_244 (fun H locs hR => ?_)
      refine lv_if_ne (tgt := 294) C.1 C.2.1 dX12_isOwnHere_247 (by decide) (fun hc => ?_) (fun hc => ?_)
      · replace h := if_f h hc
        exact w_X12_isOwnHere_294 C S2 h _ _ _ hR (lv_sub hl [1] rfl)
      · replace h := if_t h hc
        refine lv_aload_n C.1 C.2.1 dX12_isOwnHere_250 rfl (lv_at hl 1 rfl) ?_
        refine lv_aload_n C.1 C.2.1 dX12_isOwnHere_251 rfl (lv_at hl 1 rfl) ?_
        refine ho_getR (a' := 31) C cf12 fM_81 hR aM_0 rfl dX12_isOwnHere_252 ?_
        obtain ⟨r3, S3, h3, h⟩ := ob2_ok h
        refine hr_Vi (v := r3) (S' := S3) (As := [.ref (E.2.1 31)]) (rest := []) C cf12 (c_X12_isHere l E 31 5 aM_31 _ _ h3) yv_X12_isHere lk_RX12_287 rfl aM_0 rfl rfl hl.1 (Nat.le_of_ble_eq_true rfl) (by decide) (by decide) hR (ho_A hR) dX12_isOwnHere_255 (fun H locs hR => ?_)
        refine lv_if_ne (tgt := 294) C.1 C.2.1 dX12_isOwnHere_258 (by decide) (fun hc => ?_) (fun hc => ?_)
        · replace h := if_f h hc
          exact w_X12_isOwnHere_294 C S3 h _ _ _ hR (lv_sub hl [1] rfl)
        · replace h := if_t h hc
          refine lv_aload_n C.1 C.2.1 dX12_isOwnHere_261 rfl (lv_at hl 1 rfl) ?_
          refine lv_aload_n C.1 C.2.1 dX12_isOwnHere_262 rfl (lv_at hl 1 rfl) ?_
          refine ho_getR (a' := 32) C cf12 fM_84 hR aM_0 rfl dX12_isOwnHere_263 ?_
          obtain ⟨r4, S4, h4, h⟩ := ob2_ok h
          refine hr_Vi (v := r4) (S' := S4) (As := [.ref (E.2.1 32)]) (rest := []) C cf12 (c_X12_isHere l E 32 4 aM_32 _ _ h4) yv_X12_isHere lk_RX12_287 rfl aM_0 rfl rfl hl.1 (Nat.le_of_ble_eq_true rfl) (by decide) (by decide) hR (ho_A hR) dX12_isOwnHere_266 (fun H locs hR => ?_)
          refine lv_if_ne (tgt := 294) C.1 C.2.1 dX12_isOwnHere_269 (by decide) (fun hc => ?_) (fun hc => ?_)
          · replace h := if_f h hc
            exact w_X12_isOwnHere_294 C S4 h _ _ _ hR (lv_sub hl [1] rfl)
          · replace h := if_t h hc
            refine lv_aload_n C.1 C.2.1 dX12_isOwnHere_272 rfl (lv_at hl 1 rfl) ?_
            refine lv_aload_n C.1 C.2.1 dX12_isOwnHere_273 rfl (lv_at hl 1 rfl) ?_
            refine ho_getR (a' := 33) C cf12 fM_87 hR aM_0 rfl dX12_isOwnHere_274 ?_
            obtain ⟨r5, S5, h5, h⟩ := ob2_ok h
            refine hr_Vi (v := r5) (S' := S5) (As := [.ref (E.2.1 33)]) (rest := []) C cf12 (c_X12_isHere l E 33 4 aM_33 _ _ h5) yv_X12_isHere lk_RX12_287 rfl aM_0 rfl rfl hl.1 (Nat.le_of_ble_eq_true rfl) (by decide) (by decide) hR (ho_A hR) dX12_isOwnHere_277 (fun H locs hR => ?_)
            refine lv_if_ne (tgt := 294) C.1 C.2.1 dX12_isOwnHere_280 (by decide) (fun hc => ?_) (fun hc => ?_)
            · replace h := if_f h hc
              exact w_X12_isOwnHere_294 C S5 h _ _ _ hR (lv_sub hl [1] rfl)
            · replace h := if_t h hc
              refine lv_aload_n C.1 C.2.1 dX12_isOwnHere_283 rfl (lv_at hl 1 rfl) ?_
              refine lv_aload_n C.1 C.2.1 dX12_isOwnHere_284 rfl (lv_at hl 1 rfl) ?_
              refine ho_getR (a' := 34) C cf12 fM_90 hR aM_0 rfl dX12_isOwnHere_285 ?_
              obtain ⟨r6, S6, h6, h⟩ := ob2_ok h
              refine hr_Vi (v := r6) (S' := S6) (As := [.ref (E.2.1 34)]) (rest := []) C cf12 (c_X12_isHere l E 34 2 aM_34 _ _ h6) yv_X12_isHere lk_RX12_287 rfl aM_0 rfl rfl hl.1 (Nat.le_of_ble_eq_true rfl) (by decide) (by decide) hR (ho_A hR) dX12_isOwnHere_288 (fun H locs hR => ?_)
              refine lv_if_eq (tgt := 298) C.1 C.2.1 dX12_isOwnHere_291 (by decide) (fun hc => ?_) (fun hc => ?_)
              · replace h := if_t h hc
                refine lv_iconst (v := (0 : Int32)) C.1 C.2.1 dX12_isOwnHere_298 (by decide) ?_
                exact w_X12_isOwnHere_299 C (0 : Int32) S6 h _ _ _ hR (lv_sub hl [1] rfl)
              · replace h := if_f h hc
                exact w_X12_isOwnHere_294 C S6 h _ _ _ hR (lv_sub hl [1] rfl)
def f_X12_isOwnHere_218 (S : Hp) : Option (Int32 × Hp) :=
  f_X12_isOwnHere_223 (1 : Int32) S
set_option maxHeartbeats 4000000 in
set_option maxRecDepth 100000 in
theorem w_X12_isOwnHere_218 {p : Program} {l : Launch} {e : Env} {s : State} {m : MethodId} {args : Array Value} {below : List Frame} {meth : Method} {c : Code} {E : Ev} {S0 : Hp} {r : (Int32 × Hp)} (C : ho_I p s m args meth c RX12 cX12_isOwnHere 2 (some .boolean)) :
    ∀ (S : Hp), f_X12_isOwnHere_218 S = some r → ho_G p l e s m args below meth c yM E S0 2 2 (some (.int r.1), r.2) 218 [(0, .ref (E.2.1 0))] [] S := by
  intro S h H locs ls hR hl
  unfold f_X12_isOwnHere_218 at h
  refine lv_iconst (v := (1 : Int32)) C.1 C.2.1 dX12_isOwnHere_218 (by decide) ?_
  refine lv_goto (tgt := 223) C.1 C.2.1 dX12_isOwnHere_219 (by decide) ?_
  exact w_X12_isOwnHere_223 C (1 : Int32) S h _ _ _ hR (lv_sub hl [0] rfl)
def f_X12_isOwnHere_147 (z0 : Int32) (S : Hp) : Option (Int32 × Hp) :=
  if z0 = 0 then ob2 (f_X12_isHere 23 4 S) (fun r1 S1 => if r1 = 0 then ob2 (f_X12_isHere 24 5 S1) (fun r2 S2 => if r2 = 0 then ob2 (f_X12_isHere 25 6 S2) (fun r3 S3 => if r3 = 0 then ob2 (f_X12_isHere 26 4 S3) (fun r4 S4 => if r4 = 0 then ob2 (f_X12_isHere 27 5 S4) (fun r5 S5 => if r5 = 0 then ob2 (f_X12_isHere 28 4 S5) (fun r6 S6 => if r6 = 0 then f_X12_isOwnHere_223 (0 : Int32) S6 else f_X12_isOwnHere_218 S6) else f_X12_isOwnHere_218 S5) else f_X12_isOwnHere_218 S4) else f_X12_isOwnHere_218 S3) else f_X12_isOwnHere_218 S2) else f_X12_isOwnHere_218 S1) else f_X12_isOwnHere_218 S
set_option maxHeartbeats 4000000 in
set_option maxRecDepth 100000 in
theorem w_X12_isOwnHere_147 {p : Program} {l : Launch} {e : Env} {s : State} {m : MethodId} {args : Array Value} {below : List Frame} {meth : Method} {c : Code} {E : Ev} {S0 : Hp} {r : (Int32 × Hp)} (C : ho_I p s m args meth c RX12 cX12_isOwnHere 2 (some .boolean)) :
    ∀ (z0 : Int32) (S : Hp), f_X12_isOwnHere_147 z0 S = some r → ho_G p l e s m args below meth c yM E S0 2 2 (some (.int r.1), r.2) 147 [(0, .ref (E.2.1 0))] [.int z0] S := by
  intro z0 S h H locs ls hR hl
  unfold f_X12_isOwnHere_147 at h
  refine lv_istore_n (lv' := [(1, .int z0), (0, .ref (E.2.1 0))]) C.1 C.2.1 dX12_isOwnHere_147 rfl hl (by decide) rfl (fun ls hl => ?_)
  refine lv_iload_n C.1 C.2.1 dX12_isOwnHere_148 rfl (lv_at hl 0 rfl) ?_
  refine lv_if_ne (tgt := 218) C.1 C.2.1 dX12_isOwnHere_149 (by decide) (fun hc => ?_) (fun hc => ?_)
  · replace h := if_f h hc
    exact w_X12_isOwnHere_218 C S h _ _ _ hR (lv_sub hl [1] rfl)
  · replace h := if_t h hc
    refine lv_aload_n C.1 C.2.1 dX12_isOwnHere_152 rfl (lv_at hl 1 rfl) ?_
    refine lv_aload_n C.1 C.2.1 dX12_isOwnHere_153 rfl (lv_at hl 1 rfl) ?_
    refine ho_getR (a' := 23) C cf12 fM_57 hR aM_0 rfl dX12_isOwnHere_154 ?_
    obtain ⟨r1, S1, h1, h⟩ := ob2_ok h
    refine hr_Vi (v := r1) (S' := S1) (As := [.ref (E.2.1 23)]) (rest := []) C cf12 (c_X12_isHere l E 23 4 aM_23 _ _ h1) yv_X12_isHere lk_RX12_287 rfl aM_0 rfl rfl hl.1 (Nat.le_of_ble_eq_true rfl) (by decide) (by decide) hR (ho_A hR) dX12_isOwnHere_157 (fun H locs hR => ?_)
    refine lv_if_ne (tgt := 218) C.1 C.2.1 dX12_isOwnHere_160 (by decide) (fun hc => ?_) (fun hc => ?_)
    · replace h := if_f h hc
      exact w_X12_isOwnHere_218 C S1 h _ _ _ hR (lv_sub hl [1] rfl)
    · replace h := if_t h hc
      refine lv_aload_n C.1 C.2.1 dX12_isOwnHere_163 rfl (lv_at hl 1 rfl) ?_
      refine lv_aload_n C.1 C.2.1 dX12_isOwnHere_164 rfl (lv_at hl 1 rfl) ?_
      refine ho_getR (a' := 24) C cf12 fM_60 hR aM_0 rfl dX12_isOwnHere_165 ?_
      obtain ⟨r2, S2, h2, h⟩ := ob2_ok h
      refine hr_Vi (v := r2) (S' := S2) (As := [.ref (E.2.1 24)]) (rest := []) C cf12 (c_X12_isHere l E 24 5 aM_24 _ _ h2) yv_X12_isHere lk_RX12_287 rfl aM_0 rfl rfl hl.1 (Nat.le_of_ble_eq_true rfl) (by decide) (by decide) hR (ho_A hR) dX12_isOwnHere_168 (fun H locs hR => ?_)
      refine lv_if_ne (tgt := 218) C.1 C.2.1 dX12_isOwnHere_171 (by decide) (fun hc => ?_) (fun hc => ?_)
      · replace h := if_f h hc
        exact w_X12_isOwnHere_218 C S2 h _ _ _ hR (lv_sub hl [1] rfl)
      · replace h := if_t h hc
        refine lv_aload_n C.1 C.2.1 dX12_isOwnHere_174 rfl (lv_at hl 1 rfl) ?_
        refine lv_aload_n C.1 C.2.1 dX12_isOwnHere_175 rfl (lv_at hl 1 rfl) ?_
        refine ho_getR (a' := 25) C cf12 fM_63 hR aM_0 rfl dX12_isOwnHere_176 ?_
        obtain ⟨r3, S3, h3, h⟩ := ob2_ok h
        refine hr_Vi (v := r3) (S' := S3) (As := [.ref (E.2.1 25)]) (rest := []) C cf12 (c_X12_isHere l E 25 6 aM_25 _ _ h3) yv_X12_isHere lk_RX12_287 rfl aM_0 rfl rfl hl.1 (Nat.le_of_ble_eq_true rfl) (by decide) (by decide) hR (ho_A hR) dX12_isOwnHere_179 (fun H locs hR => ?_)
        refine lv_if_ne (tgt := 218) C.1 C.2.1 dX12_isOwnHere_182 (by decide) (fun hc => ?_) (fun hc => ?_)
        · replace h := if_f h hc
          exact w_X12_isOwnHere_218 C S3 h _ _ _ hR (lv_sub hl [1] rfl)
        · replace h := if_t h hc
          refine lv_aload_n C.1 C.2.1 dX12_isOwnHere_185 rfl (lv_at hl 1 rfl) ?_
          refine lv_aload_n C.1 C.2.1 dX12_isOwnHere_186 rfl (lv_at hl 1 rfl) ?_
          refine ho_getR (a' := 26) C cf12 fM_66 hR aM_0 rfl dX12_isOwnHere_187 ?_
          obtain ⟨r4, S4, h4, h⟩ := ob2_ok h
          refine hr_Vi (v := r4) (S' := S4) (As := [.ref (E.2.1 26)]) (rest := []) C cf12 (c_X12_isHere l E 26 4 aM_26 _ _ h4) yv_X12_isHere lk_RX12_287 rfl aM_0 rfl rfl hl.1 (Nat.le_of_ble_eq_true rfl) (by decide) (by decide) hR (ho_A hR) dX12_isOwnHere_190 (fun H locs hR => ?_)
          refine lv_if_ne (tgt := 218) C.1 C.2.1 dX12_isOwnHere_193 (by decide) (fun hc => ?_) (fun hc => ?_)
          · replace h := if_f h hc
            exact w_X12_isOwnHere_218 C S4 h _ _ _ hR (lv_sub hl [1] rfl)
          · replace h := if_t h hc
            refine lv_aload_n C.1 C.2.1 dX12_isOwnHere_196 rfl (lv_at hl 1 rfl) ?_
            refine lv_aload_n C.1 C.2.1 dX12_isOwnHere_197 rfl (lv_at hl 1 rfl) ?_
            refine ho_getR (a' := 27) C cf12 fM_69 hR aM_0 rfl dX12_isOwnHere_198 ?_
            obtain ⟨r5, S5, h5, h⟩ := ob2_ok h
            refine hr_Vi (v := r5) (S' := S5) (As := [.ref (E.2.1 27)]) (rest := []) C cf12 (c_X12_isHere l E 27 5 aM_27 _ _ h5) yv_X12_isHere lk_RX12_287 rfl aM_0 rfl rfl hl.1 (Nat.le_of_ble_eq_true rfl) (by decide) (by decide) hR (ho_A hR) dX12_isOwnHere_201 (fun H locs hR => ?_)
            refine lv_if_ne (tgt := 218) C.1 C.2.1 dX12_isOwnHere_204 (by decide) (fun hc => ?_) (fun hc => ?_)
            · replace h := if_f h hc
              exact w_X12_isOwnHere_218 C S5 h _ _ _ hR (lv_sub hl [1] rfl)
            · replace h := if_t h hc
              refine lv_aload_n C.1 C.2.1 dX12_isOwnHere_207 rfl (lv_at hl 1 rfl) ?_
              refine lv_aload_n C.1 C.2.1 dX12_isOwnHere_208 rfl (lv_at hl 1 rfl) ?_
              refine ho_getR (a' := 28) C cf12 fM_72 hR aM_0 rfl dX12_isOwnHere_209 ?_
              obtain ⟨r6, S6, h6, h⟩ := ob2_ok h
              refine hr_Vi (v := r6) (S' := S6) (As := [.ref (E.2.1 28)]) (rest := []) C cf12 (c_X12_isHere l E 28 4 aM_28 _ _ h6) yv_X12_isHere lk_RX12_287 rfl aM_0 rfl rfl hl.1 (Nat.le_of_ble_eq_true rfl) (by decide) (by decide) hR (ho_A hR) dX12_isOwnHere_212 (fun H locs hR => ?_)
              refine lv_if_eq (tgt := 222) C.1 C.2.1 dX12_isOwnHere_215 (by decide) (fun hc => ?_) (fun hc => ?_)
              · replace h := if_t h hc
                refine lv_iconst (v := (0 : Int32)) C.1 C.2.1 dX12_isOwnHere_222 (by decide) ?_
                exact w_X12_isOwnHere_223 C (0 : Int32) S6 h _ _ _ hR (lv_sub hl [1] rfl)
              · replace h := if_f h hc
                exact w_X12_isOwnHere_218 C S6 h _ _ _ hR (lv_sub hl [1] rfl)
def f_X12_isOwnHere_142 (S : Hp) : Option (Int32 × Hp) :=
  f_X12_isOwnHere_147 (1 : Int32) S
set_option maxHeartbeats 4000000 in
set_option maxRecDepth 100000 in
theorem w_X12_isOwnHere_142 {p : Program} {l : Launch} {e : Env} {s : State} {m : MethodId} {args : Array Value} {below : List Frame} {meth : Method} {c : Code} {E : Ev} {S0 : Hp} {r : (Int32 × Hp)} (C : ho_I p s m args meth c RX12 cX12_isOwnHere 2 (some .boolean)) :
    ∀ (S : Hp), f_X12_isOwnHere_142 S = some r → ho_G p l e s m args below meth c yM E S0 2 2 (some (.int r.1), r.2) 142 [(0, .ref (E.2.1 0))] [] S := by
  intro S h H locs ls hR hl
  unfold f_X12_isOwnHere_142 at h
  refine lv_iconst (v := (1 : Int32)) C.1 C.2.1 dX12_isOwnHere_142 (by decide) ?_
  refine lv_goto (tgt := 147) C.1 C.2.1 dX12_isOwnHere_143 (by decide) ?_
  exact w_X12_isOwnHere_147 C (1 : Int32) S h _ _ _ hR (lv_sub hl [0] rfl)
def f_X12_isOwnHere_71 (z0 : Int32) (S : Hp) : Option (Int32 × Hp) :=
  if z0 = 0 then ob2 (f_X12_isHere 17 5 S) (fun r1 S1 => if r1 = 0 then ob2 (f_X12_isHere 18 4 S1) (fun r2 S2 => if r2 = 0 then ob2 (f_X12_isHere 19 4 S2) (fun r3 S3 => if r3 = 0 then ob2 (f_X12_isHere 20 5 S3) (fun r4 S4 => if r4 = 0 then ob2 (f_X12_isHere 21 4 S4) (fun r5 S5 => if r5 = 0 then ob2 (f_X12_isHere 22 5 S5) (fun r6 S6 => if r6 = 0 then f_X12_isOwnHere_147 (0 : Int32) S6 else f_X12_isOwnHere_142 S6) else f_X12_isOwnHere_142 S5) else f_X12_isOwnHere_142 S4) else f_X12_isOwnHere_142 S3) else f_X12_isOwnHere_142 S2) else f_X12_isOwnHere_142 S1) else f_X12_isOwnHere_142 S
set_option maxHeartbeats 4000000 in
set_option maxRecDepth 100000 in
theorem w_X12_isOwnHere_71 {p : Program} {l : Launch} {e : Env} {s : State} {m : MethodId} {args : Array Value} {below : List Frame} {meth : Method} {c : Code} {E : Ev} {S0 : Hp} {r : (Int32 × Hp)} (C : ho_I p s m args meth c RX12 cX12_isOwnHere 2 (some .boolean)) :
    ∀ (z0 : Int32) (S : Hp), f_X12_isOwnHere_71 z0 S = some r → ho_G p l e s m args below meth c yM E S0 2 2 (some (.int r.1), r.2) 71 [(0, .ref (E.2.1 0))] [.int z0] S := by
  intro z0 S h H locs ls hR hl
  unfold f_X12_isOwnHere_71 at h
  refine lv_istore_n (lv' := [(1, .int z0), (0, .ref (E.2.1 0))]) C.1 C.2.1 dX12_isOwnHere_71 rfl hl (by decide) rfl (fun ls hl => ?_)
  refine lv_iload_n C.1 C.2.1 dX12_isOwnHere_72 rfl (lv_at hl 0 rfl) ?_
  refine lv_if_ne (tgt := 142) C.1 C.2.1 dX12_isOwnHere_73 (by decide) (fun hc => ?_) (fun hc => ?_)
  · replace h := if_f h hc
    exact w_X12_isOwnHere_142 C S h _ _ _ hR (lv_sub hl [1] rfl)
  · replace h := if_t h hc
    refine lv_aload_n C.1 C.2.1 dX12_isOwnHere_76 rfl (lv_at hl 1 rfl) ?_
    refine lv_aload_n C.1 C.2.1 dX12_isOwnHere_77 rfl (lv_at hl 1 rfl) ?_
    refine ho_getR (a' := 17) C cf12 fM_39 hR aM_0 rfl dX12_isOwnHere_78 ?_
    obtain ⟨r1, S1, h1, h⟩ := ob2_ok h
    refine hr_Vi (v := r1) (S' := S1) (As := [.ref (E.2.1 17)]) (rest := []) C cf12 (c_X12_isHere l E 17 5 aM_17 _ _ h1) yv_X12_isHere lk_RX12_287 rfl aM_0 rfl rfl hl.1 (Nat.le_of_ble_eq_true rfl) (by decide) (by decide) hR (ho_A hR) dX12_isOwnHere_81 (fun H locs hR => ?_)
    refine lv_if_ne (tgt := 142) C.1 C.2.1 dX12_isOwnHere_84 (by decide) (fun hc => ?_) (fun hc => ?_)
    · replace h := if_f h hc
      exact w_X12_isOwnHere_142 C S1 h _ _ _ hR (lv_sub hl [1] rfl)
    · replace h := if_t h hc
      refine lv_aload_n C.1 C.2.1 dX12_isOwnHere_87 rfl (lv_at hl 1 rfl) ?_
      refine lv_aload_n C.1 C.2.1 dX12_isOwnHere_88 rfl (lv_at hl 1 rfl) ?_
      refine ho_getR (a' := 18) C cf12 fM_42 hR aM_0 rfl dX12_isOwnHere_89 ?_
      obtain ⟨r2, S2, h2, h⟩ := ob2_ok h
      refine hr_Vi (v := r2) (S' := S2) (As := [.ref (E.2.1 18)]) (rest := []) C cf12 (c_X12_isHere l E 18 4 aM_18 _ _ h2) yv_X12_isHere lk_RX12_287 rfl aM_0 rfl rfl hl.1 (Nat.le_of_ble_eq_true rfl) (by decide) (by decide) hR (ho_A hR) dX12_isOwnHere_92 (fun H locs hR => ?_)
      refine lv_if_ne (tgt := 142) C.1 C.2.1 dX12_isOwnHere_95 (by decide) (fun hc => ?_) (fun hc => ?_)
      · replace h := if_f h hc
        exact w_X12_isOwnHere_142 C S2 h _ _ _ hR (lv_sub hl [1] rfl)
      · replace h := if_t h hc
        refine lv_aload_n C.1 C.2.1 dX12_isOwnHere_98 rfl (lv_at hl 1 rfl) ?_
        refine lv_aload_n C.1 C.2.1 dX12_isOwnHere_99 rfl (lv_at hl 1 rfl) ?_
        refine ho_getR (a' := 19) C cf12 fM_45 hR aM_0 rfl dX12_isOwnHere_100 ?_
        obtain ⟨r3, S3, h3, h⟩ := ob2_ok h
        refine hr_Vi (v := r3) (S' := S3) (As := [.ref (E.2.1 19)]) (rest := []) C cf12 (c_X12_isHere l E 19 4 aM_19 _ _ h3) yv_X12_isHere lk_RX12_287 rfl aM_0 rfl rfl hl.1 (Nat.le_of_ble_eq_true rfl) (by decide) (by decide) hR (ho_A hR) dX12_isOwnHere_103 (fun H locs hR => ?_)
        refine lv_if_ne (tgt := 142) C.1 C.2.1 dX12_isOwnHere_106 (by decide) (fun hc => ?_) (fun hc => ?_)
        · replace h := if_f h hc
          exact w_X12_isOwnHere_142 C S3 h _ _ _ hR (lv_sub hl [1] rfl)
        · replace h := if_t h hc
          refine lv_aload_n C.1 C.2.1 dX12_isOwnHere_109 rfl (lv_at hl 1 rfl) ?_
          refine lv_aload_n C.1 C.2.1 dX12_isOwnHere_110 rfl (lv_at hl 1 rfl) ?_
          refine ho_getR (a' := 20) C cf12 fM_48 hR aM_0 rfl dX12_isOwnHere_111 ?_
          obtain ⟨r4, S4, h4, h⟩ := ob2_ok h
          refine hr_Vi (v := r4) (S' := S4) (As := [.ref (E.2.1 20)]) (rest := []) C cf12 (c_X12_isHere l E 20 5 aM_20 _ _ h4) yv_X12_isHere lk_RX12_287 rfl aM_0 rfl rfl hl.1 (Nat.le_of_ble_eq_true rfl) (by decide) (by decide) hR (ho_A hR) dX12_isOwnHere_114 (fun H locs hR => ?_)
          refine lv_if_ne (tgt := 142) C.1 C.2.1 dX12_isOwnHere_117 (by decide) (fun hc => ?_) (fun hc => ?_)
          · replace h := if_f h hc
            exact w_X12_isOwnHere_142 C S4 h _ _ _ hR (lv_sub hl [1] rfl)
          · replace h := if_t h hc
            refine lv_aload_n C.1 C.2.1 dX12_isOwnHere_120 rfl (lv_at hl 1 rfl) ?_
            refine lv_aload_n C.1 C.2.1 dX12_isOwnHere_121 rfl (lv_at hl 1 rfl) ?_
            refine ho_getR (a' := 21) C cf12 fM_51 hR aM_0 rfl dX12_isOwnHere_122 ?_
            obtain ⟨r5, S5, h5, h⟩ := ob2_ok h
            refine hr_Vi (v := r5) (S' := S5) (As := [.ref (E.2.1 21)]) (rest := []) C cf12 (c_X12_isHere l E 21 4 aM_21 _ _ h5) yv_X12_isHere lk_RX12_287 rfl aM_0 rfl rfl hl.1 (Nat.le_of_ble_eq_true rfl) (by decide) (by decide) hR (ho_A hR) dX12_isOwnHere_125 (fun H locs hR => ?_)
            refine lv_if_ne (tgt := 142) C.1 C.2.1 dX12_isOwnHere_128 (by decide) (fun hc => ?_) (fun hc => ?_)
            · replace h := if_f h hc
              exact w_X12_isOwnHere_142 C S5 h _ _ _ hR (lv_sub hl [1] rfl)
            · replace h := if_t h hc
              refine lv_aload_n C.1 C.2.1 dX12_isOwnHere_131 rfl (lv_at hl 1 rfl) ?_
              refine lv_aload_n C.1 C.2.1 dX12_isOwnHere_132 rfl (lv_at hl 1 rfl) ?_
              refine ho_getR (a' := 22) C cf12 fM_54 hR aM_0 rfl dX12_isOwnHere_133 ?_
              obtain ⟨r6, S6, h6, h⟩ := ob2_ok h
              refine hr_Vi (v := r6) (S' := S6) (As := [.ref (E.2.1 22)]) (rest := []) C cf12 (c_X12_isHere l E 22 5 aM_22 _ _ h6) yv_X12_isHere lk_RX12_287 rfl aM_0 rfl rfl hl.1 (Nat.le_of_ble_eq_true rfl) (by decide) (by decide) hR (ho_A hR) dX12_isOwnHere_136 (fun H locs hR => ?_)
              refine lv_if_eq (tgt := 146) C.1 C.2.1 dX12_isOwnHere_139 (by decide) (fun hc => ?_) (fun hc => ?_)
              · replace h := if_t h hc
                refine lv_iconst (v := (0 : Int32)) C.1 C.2.1 dX12_isOwnHere_146 (by decide) ?_
                exact w_X12_isOwnHere_147 C (0 : Int32) S6 h _ _ _ hR (lv_sub hl [1] rfl)
              · replace h := if_f h hc
                exact w_X12_isOwnHere_142 C S6 h _ _ _ hR (lv_sub hl [1] rfl)
def f_X12_isOwnHere_66 (S : Hp) : Option (Int32 × Hp) :=
  f_X12_isOwnHere_71 (1 : Int32) S
set_option maxHeartbeats 4000000 in
set_option maxRecDepth 100000 in
theorem w_X12_isOwnHere_66 {p : Program} {l : Launch} {e : Env} {s : State} {m : MethodId} {args : Array Value} {below : List Frame} {meth : Method} {c : Code} {E : Ev} {S0 : Hp} {r : (Int32 × Hp)} (C : ho_I p s m args meth c RX12 cX12_isOwnHere 2 (some .boolean)) :
    ∀ (S : Hp), f_X12_isOwnHere_66 S = some r → ho_G p l e s m args below meth c yM E S0 2 2 (some (.int r.1), r.2) 66 [(0, .ref (E.2.1 0))] [] S := by
  intro S h H locs ls hR hl
  unfold f_X12_isOwnHere_66 at h
  refine lv_iconst (v := (1 : Int32)) C.1 C.2.1 dX12_isOwnHere_66 (by decide) ?_
  refine lv_goto (tgt := 71) C.1 C.2.1 dX12_isOwnHere_67 (by decide) ?_
  exact w_X12_isOwnHere_71 C (1 : Int32) S h _ _ _ hR (lv_sub hl [0] rfl)
def f_X12_isOwnHere (S : Hp) : Option (Int32 × Hp) :=
  ob2 (f_X12_isHere 11 4 S) (fun r1 S1 => if r1 = 0 then ob2 (f_X12_isHere 12 4 S1) (fun r2 S2 => if r2 = 0 then ob2 (f_X12_isHere 13 4 S2) (fun r3 S3 => if r3 = 0 then ob2 (f_X12_isHere 14 6 S3) (fun r4 S4 => if r4 = 0 then ob2 (f_X12_isHere 15 6 S4) (fun r5 S5 => if r5 = 0 then ob2 (f_X12_isHere 16 5 S5) (fun r6 S6 => if r6 = 0 then f_X12_isOwnHere_71 (0 : Int32) S6 else f_X12_isOwnHere_66 S6) else f_X12_isOwnHere_66 S5) else f_X12_isOwnHere_66 S4) else f_X12_isOwnHere_66 S3) else f_X12_isOwnHere_66 S2) else f_X12_isOwnHere_66 S1)
set_option maxHeartbeats 4000000 in
set_option maxRecDepth 100000 in
theorem c_X12_isOwnHere (l : Launch) (E : Ev) (S : Hp) (r : (Int32 × Hp)) (h : f_X12_isOwnHere S = some r) : ho_M l yM E yX12_isOwnHere cX12_isOwnHere 2 (some .boolean) 2 [.ref (E.2.1 0)] S (some (.int r.1), r.2) := by
  refine ho_in (by decide) (Nat.le_of_ble_eq_true rfl) ?_
  intro p e s m args below meth c C hR ls hl
  have C : ho_I p s m args meth c RX12 cX12_isOwnHere 2 (some .boolean) := C
  have hl : lv_has ls 2 [(0, .ref (E.2.1 0))] := hl
  unfold f_X12_isOwnHere at h
  refine lv_aload_n C.1 C.2.1 dX12_isOwnHere_0 rfl (lv_at hl 0 rfl) ?_
  refine lv_aload_n C.1 C.2.1 dX12_isOwnHere_1 rfl (lv_at hl 0 rfl) ?_
  refine ho_getR (a' := 11) C cf12 fM_20 hR aM_0 rfl dX12_isOwnHere_2 ?_
  obtain ⟨r1, S1, h1, h⟩ := ob2_ok h
  refine hr_Vi (v := r1) (S' := S1) (As := [.ref (E.2.1 11)]) (rest := []) C cf12 (c_X12_isHere l E 11 4 aM_11 _ _ h1) yv_X12_isHere lk_RX12_287 rfl aM_0 rfl rfl hl.1 (Nat.le_of_ble_eq_true rfl) (by decide) (by decide) hR (ho_A hR) dX12_isOwnHere_5 (fun H locs hR => ?_)
  refine lv_if_ne (tgt := 66) C.1 C.2.1 dX12_isOwnHere_8 (by decide) (fun hc => ?_) (fun hc => ?_)
  · replace h := if_f h hc
    exact w_X12_isOwnHere_66 C S1 h _ _ _ hR (lv_sub hl [0] rfl)
  · replace h := if_t h hc
    refine lv_aload_n C.1 C.2.1 dX12_isOwnHere_11 rfl (lv_at hl 0 rfl) ?_
    refine lv_aload_n C.1 C.2.1 dX12_isOwnHere_12 rfl (lv_at hl 0 rfl) ?_
    refine ho_getR (a' := 12) C cf12 fM_24 hR aM_0 rfl dX12_isOwnHere_13 ?_
    obtain ⟨r2, S2, h2, h⟩ := ob2_ok h
    refine hr_Vi (v := r2) (S' := S2) (As := [.ref (E.2.1 12)]) (rest := []) C cf12 (c_X12_isHere l E 12 4 aM_12 _ _ h2) yv_X12_isHere lk_RX12_287 rfl aM_0 rfl rfl hl.1 (Nat.le_of_ble_eq_true rfl) (by decide) (by decide) hR (ho_A hR) dX12_isOwnHere_16 (fun H locs hR => ?_)
    refine lv_if_ne (tgt := 66) C.1 C.2.1 dX12_isOwnHere_19 (by decide) (fun hc => ?_) (fun hc => ?_)
    · replace h := if_f h hc
      exact w_X12_isOwnHere_66 C S2 h _ _ _ hR (lv_sub hl [0] rfl)
    · replace h := if_t h hc
      refine lv_aload_n C.1 C.2.1 dX12_isOwnHere_22 rfl (lv_at hl 0 rfl) ?_
      refine lv_aload_n C.1 C.2.1 dX12_isOwnHere_23 rfl (lv_at hl 0 rfl) ?_
      refine ho_getR (a' := 13) C cf12 fM_27 hR aM_0 rfl dX12_isOwnHere_24 ?_
      obtain ⟨r3, S3, h3, h⟩ := ob2_ok h
      refine hr_Vi (v := r3) (S' := S3) (As := [.ref (E.2.1 13)]) (rest := []) C cf12 (c_X12_isHere l E 13 4 aM_13 _ _ h3) yv_X12_isHere lk_RX12_287 rfl aM_0 rfl rfl hl.1 (Nat.le_of_ble_eq_true rfl) (by decide) (by decide) hR (ho_A hR) dX12_isOwnHere_27 (fun H locs hR => ?_)
      refine lv_if_ne (tgt := 66) C.1 C.2.1 dX12_isOwnHere_30 (by decide) (fun hc => ?_) (fun hc => ?_)
      · replace h := if_f h hc
        exact w_X12_isOwnHere_66 C S3 h _ _ _ hR (lv_sub hl [0] rfl)
      · replace h := if_t h hc
        refine lv_aload_n C.1 C.2.1 dX12_isOwnHere_33 rfl (lv_at hl 0 rfl) ?_
        refine lv_aload_n C.1 C.2.1 dX12_isOwnHere_34 rfl (lv_at hl 0 rfl) ?_
        refine ho_getR (a' := 14) C cf12 fM_30 hR aM_0 rfl dX12_isOwnHere_35 ?_
        obtain ⟨r4, S4, h4, h⟩ := ob2_ok h
        refine hr_Vi (v := r4) (S' := S4) (As := [.ref (E.2.1 14)]) (rest := []) C cf12 (c_X12_isHere l E 14 6 aM_14 _ _ h4) yv_X12_isHere lk_RX12_287 rfl aM_0 rfl rfl hl.1 (Nat.le_of_ble_eq_true rfl) (by decide) (by decide) hR (ho_A hR) dX12_isOwnHere_38 (fun H locs hR => ?_)
        refine lv_if_ne (tgt := 66) C.1 C.2.1 dX12_isOwnHere_41 (by decide) (fun hc => ?_) (fun hc => ?_)
        · replace h := if_f h hc
          exact w_X12_isOwnHere_66 C S4 h _ _ _ hR (lv_sub hl [0] rfl)
        · replace h := if_t h hc
          refine lv_aload_n C.1 C.2.1 dX12_isOwnHere_44 rfl (lv_at hl 0 rfl) ?_
          refine lv_aload_n C.1 C.2.1 dX12_isOwnHere_45 rfl (lv_at hl 0 rfl) ?_
          refine ho_getR (a' := 15) C cf12 fM_33 hR aM_0 rfl dX12_isOwnHere_46 ?_
          obtain ⟨r5, S5, h5, h⟩ := ob2_ok h
          refine hr_Vi (v := r5) (S' := S5) (As := [.ref (E.2.1 15)]) (rest := []) C cf12 (c_X12_isHere l E 15 6 aM_15 _ _ h5) yv_X12_isHere lk_RX12_287 rfl aM_0 rfl rfl hl.1 (Nat.le_of_ble_eq_true rfl) (by decide) (by decide) hR (ho_A hR) dX12_isOwnHere_49 (fun H locs hR => ?_)
          refine lv_if_ne (tgt := 66) C.1 C.2.1 dX12_isOwnHere_52 (by decide) (fun hc => ?_) (fun hc => ?_)
          · replace h := if_f h hc
            exact w_X12_isOwnHere_66 C S5 h _ _ _ hR (lv_sub hl [0] rfl)
          · replace h := if_t h hc
            refine lv_aload_n C.1 C.2.1 dX12_isOwnHere_55 rfl (lv_at hl 0 rfl) ?_
            refine lv_aload_n C.1 C.2.1 dX12_isOwnHere_56 rfl (lv_at hl 0 rfl) ?_
            refine ho_getR (a' := 16) C cf12 fM_36 hR aM_0 rfl dX12_isOwnHere_57 ?_
            obtain ⟨r6, S6, h6, h⟩ := ob2_ok h
            refine hr_Vi (v := r6) (S' := S6) (As := [.ref (E.2.1 16)]) (rest := []) C cf12 (c_X12_isHere l E 16 5 aM_16 _ _ h6) yv_X12_isHere lk_RX12_287 rfl aM_0 rfl rfl hl.1 (Nat.le_of_ble_eq_true rfl) (by decide) (by decide) hR (ho_A hR) dX12_isOwnHere_60 (fun H locs hR => ?_)
            refine lv_if_eq (tgt := 70) C.1 C.2.1 dX12_isOwnHere_63 (by decide) (fun hc => ?_) (fun hc => ?_)
            · replace h := if_t h hc
              refine lv_iconst (v := (0 : Int32)) C.1 C.2.1 dX12_isOwnHere_70 (by decide) ?_
              exact w_X12_isOwnHere_71 C (0 : Int32) S6 h _ _ _ hR (lv_sub hl [0] rfl)
            · replace h := if_f h hc
              exact w_X12_isOwnHere_66 C S6 h _ _ _ hR (lv_sub hl [0] rfl)
theorem dX12_name_0 : decode cX12_name 0 = .ok (.aload_n 0, 1) := by decide +kernel
theorem dX12_name_1 : decode cX12_name 1 = .ok (.getfield 264, 3) := by decide +kernel
theorem dX12_name_4 : decode cX12_name 4 = .ok (.ifCond .eq 5, 3) := by decide +kernel
theorem dX12_name_7 : decode cX12_name 7 = .ok (.lconst 0, 1) := by decide +kernel
theorem dX12_name_8 : decode cX12_name 8 = .ok (.lreturn, 1) := by decide +kernel
theorem dX12_name_9 : decode cX12_name 9 = .ok (.aload_n 0, 1) := by decide +kernel
theorem dX12_name_10 : decode cX12_name 10 = .ok (.invokevirtual 276, 3) := by decide +kernel
theorem dX12_name_13 : decode cX12_name 13 = .ok (.invokestatic 280, 3) := by decide +kernel
theorem dX12_name_16 : decode cX12_name 16 = .ok (.ifCond .eq 21, 3) := by decide +kernel
theorem dX12_name_19 : decode cX12_name 19 = .ok (.aload_n 0, 1) := by decide +kernel
theorem dX12_name_20 : decode cX12_name 20 = .ok (.getfield 270, 3) := by decide +kernel
theorem dX12_name_23 : decode cX12_name 23 = .ok (.aload_n 0, 1) := by decide +kernel
theorem dX12_name_24 : decode cX12_name 24 = .ok (.getfield 284, 3) := by decide +kernel
theorem dX12_name_27 : decode cX12_name 27 = .ok (.if_icmp .eq 10, 3) := by decide +kernel
theorem dX12_name_30 : decode cX12_name 30 = .ok (.aload_n 0, 1) := by decide +kernel
theorem dX12_name_31 : decode cX12_name 31 = .ok (.invokevirtual 308, 3) := by decide +kernel
theorem dX12_name_34 : decode cX12_name 34 = .ok (.ifCond .eq 14, 3) := by decide +kernel
theorem dX12_name_37 : decode cX12_name 37 = .ok (.aload_n 0, 1) := by decide +kernel
theorem dX12_name_38 : decode cX12_name 38 = .ok (.iconst 1, 1) := by decide +kernel
theorem dX12_name_39 : decode cX12_name 39 = .ok (.aload_n 0, 1) := by decide +kernel
theorem dX12_name_40 : decode cX12_name 40 = .ok (.getfield 270, 3) := by decide +kernel
theorem dX12_name_43 : decode cX12_name 43 = .ok (.invokevirtual 294, 3) := by decide +kernel
theorem dX12_name_46 : decode cX12_name 46 = .ok (.lconst 0, 1) := by decide +kernel
theorem dX12_name_47 : decode cX12_name 47 = .ok (.lreturn, 1) := by decide +kernel
theorem dX12_name_48 : decode cX12_name 48 = .ok (.aload_n 0, 1) := by decide +kernel
theorem dX12_name_49 : decode cX12_name 49 = .ok (.aload_n 0, 1) := by decide +kernel
theorem dX12_name_50 : decode cX12_name 50 = .ok (.getfield 270, 3) := by decide +kernel
theorem dX12_name_53 : decode cX12_name 53 = .ok (.putfield 312, 3) := by decide +kernel
theorem dX12_name_56 : decode cX12_name 56 = .ok (.lconst 0, 1) := by decide +kernel
theorem dX12_name_57 : decode cX12_name 57 = .ok (.lstore_n 1, 1) := by decide +kernel
theorem dX12_name_58 : decode cX12_name 58 = .ok (.aload_n 0, 1) := by decide +kernel
theorem dX12_name_59 : decode cX12_name 59 = .ok (.getfield 270, 3) := by decide +kernel
theorem dX12_name_62 : decode cX12_name 62 = .ok (.aload_n 0, 1) := by decide +kernel
theorem dX12_name_63 : decode cX12_name 63 = .ok (.getfield 273, 3) := by decide +kernel
theorem dX12_name_66 : decode cX12_name 66 = .ok (.if_icmp .ge 79, 3) := by decide +kernel
theorem dX12_name_69 : decode cX12_name 69 = .ok (.aload_n 0, 1) := by decide +kernel
theorem dX12_name_70 : decode cX12_name 70 = .ok (.getfield 7, 3) := by decide +kernel
theorem dX12_name_73 : decode cX12_name 73 = .ok (.aload_n 0, 1) := by decide +kernel
theorem dX12_name_74 : decode cX12_name 74 = .ok (.getfield 270, 3) := by decide +kernel
theorem dX12_name_77 : decode cX12_name 77 = .ok (.iaload, 1) := by decide +kernel
theorem dX12_name_78 : decode cX12_name 78 = .ok (.invokestatic 280, 3) := by decide +kernel
theorem dX12_name_81 : decode cX12_name 81 = .ok (.ifCond .eq 64, 3) := by decide +kernel
theorem dX12_name_84 : decode cX12_name 84 = .ok (.aload_n 0, 1) := by decide +kernel
theorem dX12_name_85 : decode cX12_name 85 = .ok (.getfield 270, 3) := by decide +kernel
theorem dX12_name_88 : decode cX12_name 88 = .ok (.aload_n 0, 1) := by decide +kernel
theorem dX12_name_89 : decode cX12_name 89 = .ok (.getfield 312, 3) := by decide +kernel
theorem dX12_name_92 : decode cX12_name 92 = .ok (.isub, 1) := by decide +kernel
theorem dX12_name_93 : decode cX12_name 93 = .ok (.bipush 6, 2) := by decide +kernel
theorem dX12_name_95 : decode cX12_name 95 = .ok (.if_icmp .ne 14, 3) := by decide +kernel
theorem dX12_name_98 : decode cX12_name 98 = .ok (.aload_n 0, 1) := by decide +kernel
theorem dX12_name_99 : decode cX12_name 99 = .ok (.iconst 1, 1) := by decide +kernel
theorem dX12_name_100 : decode cX12_name 100 = .ok (.aload_n 0, 1) := by decide +kernel
theorem dX12_name_101 : decode cX12_name 101 = .ok (.getfield 270, 3) := by decide +kernel
theorem dX12_name_104 : decode cX12_name 104 = .ok (.invokevirtual 294, 3) := by decide +kernel
theorem dX12_name_107 : decode cX12_name 107 = .ok (.lconst 0, 1) := by decide +kernel
theorem dX12_name_108 : decode cX12_name 108 = .ok (.lreturn, 1) := by decide +kernel
theorem dX12_name_109 : decode cX12_name 109 = .ok (.ldc2_w 315, 3) := by decide +kernel
theorem dX12_name_112 : decode cX12_name 112 = .ok (.lload_n 1, 1) := by decide +kernel
theorem dX12_name_113 : decode cX12_name 113 = .ok (.lmul, 1) := by decide +kernel
theorem dX12_name_114 : decode cX12_name 114 = .ok (.aload_n 0, 1) := by decide +kernel
theorem dX12_name_115 : decode cX12_name 115 = .ok (.getfield 7, 3) := by decide +kernel
theorem dX12_name_118 : decode cX12_name 118 = .ok (.aload_n 0, 1) := by decide +kernel
theorem dX12_name_119 : decode cX12_name 119 = .ok (.getfield 270, 3) := by decide +kernel
theorem dX12_name_122 : decode cX12_name 122 = .ok (.iaload, 1) := by decide +kernel
theorem dX12_name_123 : decode cX12_name 123 = .ok (.i2l, 1) := by decide +kernel
theorem dX12_name_124 : decode cX12_name 124 = .ok (.ladd, 1) := by decide +kernel
theorem dX12_name_125 : decode cX12_name 125 = .ok (.ldc2_w 317, 3) := by decide +kernel
theorem dX12_name_128 : decode cX12_name 128 = .ok (.lsub, 1) := by decide +kernel
theorem dX12_name_129 : decode cX12_name 129 = .ok (.lconst 1, 1) := by decide +kernel
theorem dX12_name_130 : decode cX12_name 130 = .ok (.ladd, 1) := by decide +kernel
theorem dX12_name_131 : decode cX12_name 131 = .ok (.lstore_n 1, 1) := by decide +kernel
theorem dX12_name_132 : decode cX12_name 132 = .ok (.aload_n 0, 1) := by decide +kernel
theorem dX12_name_133 : decode cX12_name 133 = .ok (.dup, 1) := by decide +kernel
theorem dX12_name_134 : decode cX12_name 134 = .ok (.getfield 270, 3) := by decide +kernel
theorem dX12_name_137 : decode cX12_name 137 = .ok (.iconst 1, 1) := by decide +kernel
theorem dX12_name_138 : decode cX12_name 138 = .ok (.iadd, 1) := by decide +kernel
theorem dX12_name_139 : decode cX12_name 139 = .ok (.putfield 270, 3) := by decide +kernel
theorem dX12_name_142 : decode cX12_name 142 = .ok (.goto (-84), 3) := by decide +kernel
theorem dX12_name_145 : decode cX12_name 145 = .ok (.aload_n 0, 1) := by decide +kernel
theorem dX12_name_146 : decode cX12_name 146 = .ok (.aload_n 0, 1) := by decide +kernel
theorem dX12_name_147 : decode cX12_name 147 = .ok (.getfield 270, 3) := by decide +kernel
theorem dX12_name_150 : decode cX12_name 150 = .ok (.putfield 284, 3) := by decide +kernel
theorem dX12_name_153 : decode cX12_name 153 = .ok (.lload_n 1, 1) := by decide +kernel
theorem dX12_name_154 : decode cX12_name 154 = .ok (.lreturn, 1) := by decide +kernel
def f_X12_name_37 (S : Hp) : Option (Int64 × Hp) :=
  ob (f_X12_fail (1 : Int32) (S.1 0 2) S) (fun S1 => some ((0 : Int64), S1))
set_option maxHeartbeats 4000000 in
set_option maxRecDepth 100000 in
theorem w_X12_name_37 {p : Program} {l : Launch} {e : Env} {s : State} {m : MethodId} {args : Array Value} {below : List Frame} {meth : Method} {c : Code} {E : Ev} {S0 : Hp} {r : (Int64 × Hp)} (C : ho_I p s m args meth c RX12 cX12_name 3 (some .long)) :
    ∀ (S : Hp), f_X12_name_37 S = some r → ho_G p l e s m args below meth c yM E S0 3 3 (some (.long r.1), r.2) 37 [(0, .ref (E.2.1 0))] [] S := by
  intro S h H locs ls hR hl
  unfold f_X12_name_37 at h
  refine lv_aload_n C.1 C.2.1 dX12_name_37 rfl (lv_at hl 0 rfl) ?_
  refine lv_iconst (v := (1 : Int32)) C.1 C.2.1 dX12_name_38 (by decide) ?_
  refine lv_aload_n C.1 C.2.1 dX12_name_39 rfl (lv_at hl 0 rfl) ?_
  refine ho_getI C cf12 fM_270 hR aM_0 dX12_name_40 ?_
  obtain ⟨S1, h1, h⟩ := ob_ok h
  refine hr_Vv (S' := S1) (As := [.int (1 : Int32), .int (S.1 0 2)]) (rest := []) C cf12 (c_X12_fail l E (1 : Int32) (S.1 0 2) _ _ h1) yv_X12_fail lk_RX12_294 rfl aM_0 rfl rfl hl.1 (Nat.le_of_ble_eq_true rfl) (by decide) (by decide) hR (ho_A hR) dX12_name_43 (fun H locs hR => ?_)
  refine lv_lconst (v := (0 : Int64)) C.1 C.2.1 dX12_name_46 (by decide) ?_
  exact ho_lret C hR h dX12_name_47
def f_X12_name_145 (x1 : Int64) (S : Hp) : Option (Int64 × Hp) :=
  le1 (ho_sI S 0 4 (S.1 0 2)) (fun S1 => some (x1, S1))
set_option maxHeartbeats 4000000 in
set_option maxRecDepth 100000 in
theorem w_X12_name_145 {p : Program} {l : Launch} {e : Env} {s : State} {m : MethodId} {args : Array Value} {below : List Frame} {meth : Method} {c : Code} {E : Ev} {S0 : Hp} {r : (Int64 × Hp)} (C : ho_I p s m args meth c RX12 cX12_name 3 (some .long)) :
    ∀ (x1 : Int64) (S : Hp), f_X12_name_145 x1 S = some r → ho_G p l e s m args below meth c yM E S0 3 3 (some (.long r.1), r.2) 145 [(0, .ref (E.2.1 0)), (1, .long x1)] [] S := by
  intro x1 S h H locs ls hR hl
  unfold f_X12_name_145 at h
  refine lv_aload_n C.1 C.2.1 dX12_name_145 rfl (lv_at hl 0 rfl) ?_
  refine lv_aload_n C.1 C.2.1 dX12_name_146 rfl (lv_at hl 0 rfl) ?_
  refine ho_getI C cf12 fM_270 hR aM_0 dX12_name_147 ?_
  obtain ⟨S1, e1, h⟩ := le1_ok h
  refine hr_putI C cf12 fM_284 hR aM_0 e1 dX12_name_150 (fun H locs hR => ?_)
  refine lv_lload_n C.1 C.2.1 dX12_name_153 rfl (lv_at hl 1 rfl) ?_
  exact ho_lret C hR h dX12_name_154
def f_X12_name_58 : Nat → Int64 → Hp → Option (Int64 × Hp)
  | 0, _, _ => none
  | k + 1, x1, S => if (S.1 0 3) ≤ (S.1 0 2) then f_X12_name_145 x1 S else ldI S 1 1600 (S.1 0 2) (fun v1 => ob2 (f_X12_isLetter v1 S) (fun r2 S2 => if r2 = 0 then f_X12_name_145 x1 S2 else if ((S2.1 0 2) - (S2.1 0 39)) = (6 : Int32) then ob (f_X12_fail (1 : Int32) (S2.1 0 2) S2) (fun S6 => some ((0 : Int64), S6)) else ldI S2 1 1600 (S2.1 0 2) (fun v3 => le1 (((((27 : Int64) * x1) + (v3.toInt64)) - (97 : Int64)) + (1 : Int64)) (fun v4 => le1 (ho_sI S2 0 2 ((S2.1 0 2) + (1 : Int32))) (fun S5 => f_X12_name_58 k v4 S5)))))
set_option maxHeartbeats 4000000 in
set_option maxRecDepth 100000 in
theorem w_X12_name_58 {p : Program} {l : Launch} {e : Env} {s : State} {m : MethodId} {args : Array Value} {below : List Frame} {meth : Method} {c : Code} {E : Ev} {S0 : Hp} {r : (Int64 × Hp)} (C : ho_I p s m args meth c RX12 cX12_name 3 (some .long)) :
    ∀ (k : Nat) (x1 : Int64) (S : Hp), f_X12_name_58 k x1 S = some r → ho_G p l e s m args below meth c yM E S0 3 3 (some (.long r.1), r.2) 58 [(0, .ref (E.2.1 0)), (1, .long x1)] [] S := by
  intro k
  induction k with
  | zero =>
    intro x1 S h
    exact absurd (show (none : Option (Int64 × Hp)) = some r from h) (by simp)
  | succ k ih =>
    intro x1 S h H locs ls hR hl
    rw [f_X12_name_58] at h
    refine lv_aload_n C.1 C.2.1 dX12_name_58 rfl (lv_at hl 0 rfl) ?_
    refine ho_getI C cf12 fM_270 hR aM_0 dX12_name_59 ?_
    refine lv_aload_n C.1 C.2.1 dX12_name_62 rfl (lv_at hl 0 rfl) ?_
    refine ho_getI C cf12 fM_273 hR aM_0 dX12_name_63 ?_
    refine lv_icmp_ge (tgt := 145) C.1 C.2.1 dX12_name_66 (by decide) (fun hc => ?_) (fun hc => ?_)
    · replace h := if_t h hc
      exact w_X12_name_145 C x1 S h _ _ _ hR (lv_sub hl [0, 1] rfl)
    · replace h := if_f h hc
      refine lv_aload_n C.1 C.2.1 dX12_name_69 rfl (lv_at hl 0 rfl) ?_
      refine ho_getR (a' := 1) C cf12 fM_7 hR aM_0 rfl dX12_name_70 ?_
      refine lv_aload_n C.1 C.2.1 dX12_name_73 rfl (lv_at hl 0 rfl) ?_
      refine ho_getI C cf12 fM_270 hR aM_0 dX12_name_74 ?_
      obtain ⟨v1, e1, hi1, h⟩ := ldI_ok h
      refine hr_ild C hR aM_1 hi1 e1 dX12_name_77 ?_
      obtain ⟨r2, S2, h2, h⟩ := ob2_ok h
      refine hr_Si (v := r2) (S' := S2) (As := [.int v1]) (rest := []) C (c_X12_isLetter l E v1 _ _ h2) ys_X12_isLetter lk_RX12_280 rfl rfl hl.1 (Nat.le_of_ble_eq_true rfl) (by decide) (by decide) hR (ho_A hR) dX12_name_78 (fun H locs hR => ?_)
      refine lv_if_eq (tgt := 145) C.1 C.2.1 dX12_name_81 (by decide) (fun hc => ?_) (fun hc => ?_)
      · replace h := if_t h hc
        exact w_X12_name_145 C x1 S2 h _ _ _ hR (lv_sub hl [0, 1] rfl)
      · replace h := if_f h hc
        refine lv_aload_n C.1 C.2.1 dX12_name_84 rfl (lv_at hl 0 rfl) ?_
        refine ho_getI C cf12 fM_270 hR aM_0 dX12_name_85 ?_
        refine lv_aload_n C.1 C.2.1 dX12_name_88 rfl (lv_at hl 0 rfl) ?_
        refine ho_getI C cf12 fM_312 hR aM_0 dX12_name_89 ?_
        refine lv_isub C.1 C.2.1 dX12_name_92 ?_
        refine lv_bipush (v := (6 : Int32)) C.1 C.2.1 dX12_name_93 (by decide) ?_
        refine lv_icmp_ne (tgt := 109) C.1 C.2.1 dX12_name_95 (by decide) (fun hc => ?_) (fun hc => ?_)
        · replace h := if_f h hc
          refine lv_ldc2 (v := (27 : Int64)) C.1 C.2.1 C.2.2.2.2.1 (C.2.2.2.2.2.1 _ kc_RX12_315) dX12_name_109 ?_
          refine lv_lload_n C.1 C.2.1 dX12_name_112 rfl (lv_at hl 1 rfl) ?_
          refine lv_lmul C.1 C.2.1 dX12_name_113 ?_
          refine lv_aload_n C.1 C.2.1 dX12_name_114 rfl (lv_at hl 0 rfl) ?_
          refine ho_getR (a' := 1) C cf12 fM_7 hR aM_0 rfl dX12_name_115 ?_
          refine lv_aload_n C.1 C.2.1 dX12_name_118 rfl (lv_at hl 0 rfl) ?_
          refine ho_getI C cf12 fM_270 hR aM_0 dX12_name_119 ?_
          obtain ⟨v3, e3, hi3, h⟩ := ldI_ok h
          refine hr_ild C hR aM_1 hi3 e3 dX12_name_122 ?_
          refine lv_i2l (v := (v3.toInt64)) C.1 C.2.1 dX12_name_123 rfl ?_
          refine lv_ladd C.1 C.2.1 dX12_name_124 ?_
          refine lv_ldc2 (v := (97 : Int64)) C.1 C.2.1 C.2.2.2.2.1 (C.2.2.2.2.2.1 _ kc_RX12_317) dX12_name_125 ?_
          refine lv_lsub C.1 C.2.1 dX12_name_128 ?_
          refine lv_lconst (v := (1 : Int64)) C.1 C.2.1 dX12_name_129 (by decide) ?_
          refine lv_ladd C.1 C.2.1 dX12_name_130 ?_
          refine lv_topl (fun v4 e4 => ?_)
          replace h := le1_at e4 h
          refine lv_lstore_n (lv' := [(1, .long v4), (0, .ref (E.2.1 0))]) C.1 C.2.1 dX12_name_131 rfl hl (by decide) rfl (fun ls hl => ?_)
          refine lv_aload_n C.1 C.2.1 dX12_name_132 rfl (lv_at hl 1 rfl) ?_
          refine lv_dup C.1 C.2.1 dX12_name_133 rfl ?_
          refine ho_getI C cf12 fM_270 hR aM_0 dX12_name_134 ?_
          refine lv_iconst (v := (1 : Int32)) C.1 C.2.1 dX12_name_137 (by decide) ?_
          refine lv_iadd C.1 C.2.1 dX12_name_138 ?_
          obtain ⟨S5, e5, h⟩ := le1_ok h
          refine hr_putI C cf12 fM_270 hR aM_0 e5 dX12_name_139 (fun H locs hR => ?_)
          refine lv_goto (tgt := 58) C.1 C.2.1 dX12_name_142 (by decide) ?_
          exact ih v4 S5 h _ _ _ hR (lv_sub hl [1, 0] rfl)
        · replace h := if_t h hc
          refine lv_aload_n C.1 C.2.1 dX12_name_98 rfl (lv_at hl 0 rfl) ?_
          refine lv_iconst (v := (1 : Int32)) C.1 C.2.1 dX12_name_99 (by decide) ?_
          refine lv_aload_n C.1 C.2.1 dX12_name_100 rfl (lv_at hl 0 rfl) ?_
          refine ho_getI C cf12 fM_270 hR aM_0 dX12_name_101 ?_
          obtain ⟨S6, h6, h⟩ := ob_ok h
          refine hr_Vv (S' := S6) (As := [.int (1 : Int32), .int (S2.1 0 2)]) (rest := []) C cf12 (c_X12_fail l E (1 : Int32) (S2.1 0 2) _ _ h6) yv_X12_fail lk_RX12_294 rfl aM_0 rfl rfl hl.1 (Nat.le_of_ble_eq_true rfl) (by decide) (by decide) hR (ho_A hR) dX12_name_104 (fun H locs hR => ?_)
          refine lv_lconst (v := (0 : Int64)) C.1 C.2.1 dX12_name_107 (by decide) ?_
          exact ho_lret C hR h dX12_name_108
def f_X12_name (S : Hp) : Option (Int64 × Hp) :=
  if (S.1 0 5) = 0 then ob2 (f_X12_look0 S) (fun r1 S1 => ob2 (f_X12_isLetter r1 S1) (fun r2 S2 => if r2 = 0 then f_X12_name_37 S2 else if (S2.1 0 2) = (S2.1 0 4) then f_X12_name_37 S2 else ob2 (f_X12_isOwnHere S2) (fun r3 S3 => if r3 = 0 then le1 (ho_sI S3 0 39 (S3.1 0 2)) (fun S4 => f_X12_name_58 5000 (0 : Int64) S4) else f_X12_name_37 S3))) else some ((0 : Int64), S)
set_option maxHeartbeats 4000000 in
set_option maxRecDepth 100000 in
theorem c_X12_name (l : Launch) (E : Ev) (S : Hp) (r : (Int64 × Hp)) (h : f_X12_name S = some r) : ho_M l yM E yX12_name cX12_name 3 (some .long) 3 [.ref (E.2.1 0)] S (some (.long r.1), r.2) := by
  refine ho_in (by decide) (Nat.le_of_ble_eq_true rfl) ?_
  intro p e s m args below meth c C hR ls hl
  have C : ho_I p s m args meth c RX12 cX12_name 3 (some .long) := C
  have hl : lv_has ls 3 [(0, .ref (E.2.1 0))] := hl
  unfold f_X12_name at h
  refine lv_aload_n C.1 C.2.1 dX12_name_0 rfl (lv_at hl 0 rfl) ?_
  refine ho_getI C cf12 fM_264 hR aM_0 dX12_name_1 ?_
  refine lv_if_eq (tgt := 9) C.1 C.2.1 dX12_name_4 (by decide) (fun hc => ?_) (fun hc => ?_)
  · replace h := if_t h hc
    refine lv_aload_n C.1 C.2.1 dX12_name_9 rfl (lv_at hl 0 rfl) ?_
    obtain ⟨r1, S1, h1, h⟩ := ob2_ok h
    refine hr_Vi (v := r1) (S' := S1) (As := []) (rest := []) C cf12 (c_X12_look0 l E _ _ h1) yv_X12_look0 lk_RX12_276 rfl aM_0 rfl rfl hl.1 (Nat.le_of_ble_eq_true rfl) (by decide) (by decide) hR (ho_A hR) dX12_name_10 (fun H locs hR => ?_)
    obtain ⟨r2, S2, h2, h⟩ := ob2_ok h
    refine hr_Si (v := r2) (S' := S2) (As := [.int r1]) (rest := []) C (c_X12_isLetter l E r1 _ _ h2) ys_X12_isLetter lk_RX12_280 rfl rfl hl.1 (Nat.le_of_ble_eq_true rfl) (by decide) (by decide) hR (ho_A hR) dX12_name_13 (fun H locs hR => ?_)
    refine lv_if_eq (tgt := 37) C.1 C.2.1 dX12_name_16 (by decide) (fun hc => ?_) (fun hc => ?_)
    · replace h := if_t h hc
      exact w_X12_name_37 C S2 h _ _ _ hR (lv_sub hl [0] rfl)
    · replace h := if_f h hc
      refine lv_aload_n C.1 C.2.1 dX12_name_19 rfl (lv_at hl 0 rfl) ?_
      refine ho_getI C cf12 fM_270 hR aM_0 dX12_name_20 ?_
      refine lv_aload_n C.1 C.2.1 dX12_name_23 rfl (lv_at hl 0 rfl) ?_
      refine ho_getI C cf12 fM_284 hR aM_0 dX12_name_24 ?_
      refine lv_icmp_eq (tgt := 37) C.1 C.2.1 dX12_name_27 (by decide) (fun hc => ?_) (fun hc => ?_)
      · replace h := if_t h hc
        exact w_X12_name_37 C S2 h _ _ _ hR (lv_sub hl [0] rfl)
      · replace h := if_f h hc
        refine lv_aload_n C.1 C.2.1 dX12_name_30 rfl (lv_at hl 0 rfl) ?_
        obtain ⟨r3, S3, h3, h⟩ := ob2_ok h
        refine hr_Vi (v := r3) (S' := S3) (As := []) (rest := []) C cf12 (c_X12_isOwnHere l E _ _ h3) yv_X12_isOwnHere lk_RX12_308 rfl aM_0 rfl rfl hl.1 (Nat.le_of_ble_eq_true rfl) (by decide) (by decide) hR (ho_A hR) dX12_name_31 (fun H locs hR => ?_)
        refine lv_if_eq (tgt := 48) C.1 C.2.1 dX12_name_34 (by decide) (fun hc => ?_) (fun hc => ?_)
        · replace h := if_t h hc
          refine lv_aload_n C.1 C.2.1 dX12_name_48 rfl (lv_at hl 0 rfl) ?_
          refine lv_aload_n C.1 C.2.1 dX12_name_49 rfl (lv_at hl 0 rfl) ?_
          refine ho_getI C cf12 fM_270 hR aM_0 dX12_name_50 ?_
          obtain ⟨S4, e4, h⟩ := le1_ok h
          refine hr_putI C cf12 fM_312 hR aM_0 e4 dX12_name_53 (fun H locs hR => ?_)
          refine lv_lconst (v := (0 : Int64)) C.1 C.2.1 dX12_name_56 (by decide) ?_
          refine lv_lstore_n (lv' := [(1, .long (0 : Int64)), (0, .ref (E.2.1 0))]) C.1 C.2.1 dX12_name_57 rfl hl (by decide) rfl (fun ls hl => ?_)
          exact w_X12_name_58 C 5000 (0 : Int64) S4 h _ _ _ hR (lv_sub hl [1, 0] rfl)
        · replace h := if_f h hc
          exact w_X12_name_37 C S3 h _ _ _ hR (lv_sub hl [0] rfl)
  · replace h := if_f h hc
    refine lv_lconst (v := (0 : Int64)) C.1 C.2.1 dX12_name_7 (by decide) ?_
    exact ho_lret C hR h dX12_name_8
theorem dX12_isAllowed_0 : decode cX12_isAllowed 0 = .ok (.aload_n 0, 1) := by decide +kernel
theorem dX12_isAllowed_1 : decode cX12_isAllowed 1 = .ok (.getfield 319, 3) := by decide +kernel
theorem dX12_isAllowed_4 : decode cX12_isAllowed 4 = .ok (.ifCond .ne 16, 3) := by decide +kernel
theorem dX12_isAllowed_7 : decode cX12_isAllowed 7 = .ok (.iload_n 1, 1) := by decide +kernel
theorem dX12_isAllowed_8 : decode cX12_isAllowed 8 = .ok (.iconst 5, 1) := by decide +kernel
theorem dX12_isAllowed_9 : decode cX12_isAllowed 9 = .ok (.if_icmp .ge 7, 3) := by decide +kernel
theorem dX12_isAllowed_12 : decode cX12_isAllowed 12 = .ok (.iconst 1, 1) := by decide +kernel
theorem dX12_isAllowed_13 : decode cX12_isAllowed 13 = .ok (.goto 45, 3) := by decide +kernel
theorem dX12_isAllowed_16 : decode cX12_isAllowed 16 = .ok (.iconst 0, 1) := by decide +kernel
theorem dX12_isAllowed_17 : decode cX12_isAllowed 17 = .ok (.goto 41, 3) := by decide +kernel
theorem dX12_isAllowed_20 : decode cX12_isAllowed 20 = .ok (.iload_n 1, 1) := by decide +kernel
theorem dX12_isAllowed_21 : decode cX12_isAllowed 21 = .ok (.iconst 3, 1) := by decide +kernel
theorem dX12_isAllowed_22 : decode cX12_isAllowed 22 = .ok (.if_icmp .lt 31, 3) := by decide +kernel
theorem dX12_isAllowed_25 : decode cX12_isAllowed 25 = .ok (.iload_n 1, 1) := by decide +kernel
theorem dX12_isAllowed_26 : decode cX12_isAllowed 26 = .ok (.iconst 5, 1) := by decide +kernel
theorem dX12_isAllowed_27 : decode cX12_isAllowed 27 = .ok (.if_icmp .eq 26, 3) := by decide +kernel
theorem dX12_isAllowed_30 : decode cX12_isAllowed 30 = .ok (.aload_n 0, 1) := by decide +kernel
theorem dX12_isAllowed_31 : decode cX12_isAllowed 31 = .ok (.getfield 319, 3) := by decide +kernel
theorem dX12_isAllowed_34 : decode cX12_isAllowed 34 = .ok (.iconst 1, 1) := by decide +kernel
theorem dX12_isAllowed_35 : decode cX12_isAllowed 35 = .ok (.if_icmp .ne 12, 3) := by decide +kernel
theorem dX12_isAllowed_38 : decode cX12_isAllowed 38 = .ok (.iload_n 1, 1) := by decide +kernel
theorem dX12_isAllowed_39 : decode cX12_isAllowed 39 = .ok (.bipush 6, 2) := by decide +kernel
theorem dX12_isAllowed_41 : decode cX12_isAllowed 41 = .ok (.if_icmp .ne 16, 3) := by decide +kernel
theorem dX12_isAllowed_44 : decode cX12_isAllowed 44 = .ok (.goto 9, 3) := by decide +kernel
theorem dX12_isAllowed_47 : decode cX12_isAllowed 47 = .ok (.iload_n 1, 1) := by decide +kernel
theorem dX12_isAllowed_48 : decode cX12_isAllowed 48 = .ok (.bipush 6, 2) := by decide +kernel
theorem dX12_isAllowed_50 : decode cX12_isAllowed 50 = .ok (.if_icmp .le 7, 3) := by decide +kernel
theorem dX12_isAllowed_53 : decode cX12_isAllowed 53 = .ok (.iconst 1, 1) := by decide +kernel
theorem dX12_isAllowed_54 : decode cX12_isAllowed 54 = .ok (.goto 4, 3) := by decide +kernel
theorem dX12_isAllowed_57 : decode cX12_isAllowed 57 = .ok (.iconst 0, 1) := by decide +kernel
theorem dX12_isAllowed_58 : decode cX12_isAllowed 58 = .ok (.ireturn, 1) := by decide +kernel
def f_X12_isAllowed_53 (S : Hp) : Option (Int32 × Hp) :=
  some ((1 : Int32), S)
set_option maxHeartbeats 4000000 in
set_option maxRecDepth 100000 in
theorem w_X12_isAllowed_53 {p : Program} {l : Launch} {e : Env} {s : State} {m : MethodId} {args : Array Value} {below : List Frame} {meth : Method} {c : Code} {E : Ev} {S0 : Hp} {r : (Int32 × Hp)} (C : ho_I p s m args meth c RX12 cX12_isAllowed 2 (some .boolean)) :
    ∀ (S : Hp), f_X12_isAllowed_53 S = some r → ho_G p l e s m args below meth c yM E S0 0 2 (some (.int r.1), r.2) 53 [] [] S := by
  intro S h H locs ls hR hl
  unfold f_X12_isAllowed_53 at h
  refine lv_iconst (v := (1 : Int32)) C.1 C.2.1 dX12_isAllowed_53 (by decide) ?_
  refine lv_goto (tgt := 58) C.1 C.2.1 dX12_isAllowed_54 (by decide) ?_
  exact ho_zret C hR (Or.inr rfl) h dX12_isAllowed_58
def f_X12_isAllowed (x1 : Int32) (S : Hp) : Option (Int32 × Hp) :=
  if (S.1 0 53) = 0 then if (5 : Int32) ≤ x1 then some ((0 : Int32), S) else some ((1 : Int32), S) else if x1 < (3 : Int32) then f_X12_isAllowed_53 S else if x1 = (5 : Int32) then f_X12_isAllowed_53 S else if (S.1 0 53) = (1 : Int32) then if x1 = (6 : Int32) then f_X12_isAllowed_53 S else some ((0 : Int32), S) else if x1 ≤ (6 : Int32) then some ((0 : Int32), S) else f_X12_isAllowed_53 S
set_option maxHeartbeats 4000000 in
set_option maxRecDepth 100000 in
theorem c_X12_isAllowed (l : Launch) (E : Ev) (x1 : Int32) (S : Hp) (r : (Int32 × Hp)) (h : f_X12_isAllowed x1 S = some r) : ho_M l yM E yX12_isAllowed cX12_isAllowed 2 (some .boolean) 0 [.ref (E.2.1 0), .int x1] S (some (.int r.1), r.2) := by
  refine ho_in (by decide) (Nat.le_of_ble_eq_true rfl) ?_
  intro p e s m args below meth c C hR ls hl
  have C : ho_I p s m args meth c RX12 cX12_isAllowed 2 (some .boolean) := C
  have hl : lv_has ls 2 [(0, .ref (E.2.1 0)), (1, .int x1)] := hl
  unfold f_X12_isAllowed at h
  refine lv_aload_n C.1 C.2.1 dX12_isAllowed_0 rfl (lv_at hl 0 rfl) ?_
  refine ho_getI C cf12 fM_319 hR aM_0 dX12_isAllowed_1 ?_
  refine lv_if_ne (tgt := 20) C.1 C.2.1 dX12_isAllowed_4 (by decide) (fun hc => ?_) (fun hc => ?_)
  · replace h := if_f h hc
    refine lv_iload_n C.1 C.2.1 dX12_isAllowed_20 rfl (lv_at hl 1 rfl) ?_
    refine lv_iconst (v := (3 : Int32)) C.1 C.2.1 dX12_isAllowed_21 (by decide) ?_
    refine lv_icmp_lt (tgt := 53) C.1 C.2.1 dX12_isAllowed_22 (by decide) (fun hc => ?_) (fun hc => ?_)
    · replace h := if_t h hc
      exact w_X12_isAllowed_53 C S h _ _ _ hR (lv_sub hl [] rfl)
    · replace h := if_f h hc
      refine lv_iload_n C.1 C.2.1 dX12_isAllowed_25 rfl (lv_at hl 1 rfl) ?_
      refine lv_iconst (v := (5 : Int32)) C.1 C.2.1 dX12_isAllowed_26 (by decide) ?_
      refine lv_icmp_eq (tgt := 53) C.1 C.2.1 dX12_isAllowed_27 (by decide) (fun hc => ?_) (fun hc => ?_)
      · replace h := if_t h hc
        exact w_X12_isAllowed_53 C S h _ _ _ hR (lv_sub hl [] rfl)
      · replace h := if_f h hc
        refine lv_aload_n C.1 C.2.1 dX12_isAllowed_30 rfl (lv_at hl 0 rfl) ?_
        refine ho_getI C cf12 fM_319 hR aM_0 dX12_isAllowed_31 ?_
        refine lv_iconst (v := (1 : Int32)) C.1 C.2.1 dX12_isAllowed_34 (by decide) ?_
        refine lv_icmp_ne (tgt := 47) C.1 C.2.1 dX12_isAllowed_35 (by decide) (fun hc => ?_) (fun hc => ?_)
        · replace h := if_f h hc
          refine lv_iload_n C.1 C.2.1 dX12_isAllowed_47 rfl (lv_at hl 1 rfl) ?_
          refine lv_bipush (v := (6 : Int32)) C.1 C.2.1 dX12_isAllowed_48 (by decide) ?_
          refine lv_icmp_le (tgt := 57) C.1 C.2.1 dX12_isAllowed_50 (by decide) (fun hc => ?_) (fun hc => ?_)
          · replace h := if_t h hc
            refine lv_iconst (v := (0 : Int32)) C.1 C.2.1 dX12_isAllowed_57 (by decide) ?_
            exact ho_zret C hR (Or.inl rfl) h dX12_isAllowed_58
          · replace h := if_f h hc
            exact w_X12_isAllowed_53 C S h _ _ _ hR (lv_sub hl [] rfl)
        · replace h := if_t h hc
          refine lv_iload_n C.1 C.2.1 dX12_isAllowed_38 rfl (lv_at hl 1 rfl) ?_
          refine lv_bipush (v := (6 : Int32)) C.1 C.2.1 dX12_isAllowed_39 (by decide) ?_
          refine lv_icmp_ne (tgt := 57) C.1 C.2.1 dX12_isAllowed_41 (by decide) (fun hc => ?_) (fun hc => ?_)
          · replace h := if_f h hc
            refine lv_iconst (v := (0 : Int32)) C.1 C.2.1 dX12_isAllowed_57 (by decide) ?_
            exact ho_zret C hR (Or.inl rfl) h dX12_isAllowed_58
          · replace h := if_t h hc
            refine lv_goto (tgt := 53) C.1 C.2.1 dX12_isAllowed_44 (by decide) ?_
            exact w_X12_isAllowed_53 C S h _ _ _ hR (lv_sub hl [] rfl)
  · replace h := if_t h hc
    refine lv_iload_n C.1 C.2.1 dX12_isAllowed_7 rfl (lv_at hl 1 rfl) ?_
    refine lv_iconst (v := (5 : Int32)) C.1 C.2.1 dX12_isAllowed_8 (by decide) ?_
    refine lv_icmp_ge (tgt := 16) C.1 C.2.1 dX12_isAllowed_9 (by decide) (fun hc => ?_) (fun hc => ?_)
    · replace h := if_t h hc
      refine lv_iconst (v := (0 : Int32)) C.1 C.2.1 dX12_isAllowed_16 (by decide) ?_
      refine lv_goto (tgt := 58) C.1 C.2.1 dX12_isAllowed_17 (by decide) ?_
      exact ho_zret C hR (Or.inl rfl) h dX12_isAllowed_58
    · replace h := if_f h hc
      refine lv_iconst (v := (1 : Int32)) C.1 C.2.1 dX12_isAllowed_12 (by decide) ?_
      refine lv_goto (tgt := 58) C.1 C.2.1 dX12_isAllowed_13 (by decide) ?_
      exact ho_zret C hR (Or.inr rfl) h dX12_isAllowed_58
theorem dX12_isFull_0 : decode cX12_isFull 0 = .ok (.aload_n 0, 1) := by decide +kernel
theorem dX12_isFull_1 : decode cX12_isFull 1 = .ok (.getfield 264, 3) := by decide +kernel
theorem dX12_isFull_4 : decode cX12_isFull 4 = .ok (.ifCond .ne 19, 3) := by decide +kernel
theorem dX12_isFull_7 : decode cX12_isFull 7 = .ok (.aload_n 0, 1) := by decide +kernel
theorem dX12_isFull_8 : decode cX12_isFull 8 = .ok (.getfield 108, 3) := by decide +kernel
theorem dX12_isFull_11 : decode cX12_isFull 11 = .ok (.iload_n 1, 1) := by decide +kernel
theorem dX12_isFull_12 : decode cX12_isFull 12 = .ok (.iaload, 1) := by decide +kernel
theorem dX12_isFull_13 : decode cX12_isFull 13 = .ok (.iload_n 2, 1) := by decide +kernel
theorem dX12_isFull_14 : decode cX12_isFull 14 = .ok (.if_icmp .ne 9, 3) := by decide +kernel
theorem dX12_isFull_17 : decode cX12_isFull 17 = .ok (.aload_n 0, 1) := by decide +kernel
theorem dX12_isFull_18 : decode cX12_isFull 18 = .ok (.iconst 5, 1) := by decide +kernel
theorem dX12_isFull_19 : decode cX12_isFull 19 = .ok (.iload_n 3, 1) := by decide +kernel
theorem dX12_isFull_20 : decode cX12_isFull 20 = .ok (.invokevirtual 294, 3) := by decide +kernel
theorem dX12_isFull_23 : decode cX12_isFull 23 = .ok (.aload_n 0, 1) := by decide +kernel
theorem dX12_isFull_24 : decode cX12_isFull 24 = .ok (.getfield 264, 3) := by decide +kernel
theorem dX12_isFull_27 : decode cX12_isFull 27 = .ok (.ifCond .eq 7, 3) := by decide +kernel
theorem dX12_isFull_30 : decode cX12_isFull 30 = .ok (.iconst 1, 1) := by decide +kernel
theorem dX12_isFull_31 : decode cX12_isFull 31 = .ok (.goto 4, 3) := by decide +kernel
theorem dX12_isFull_34 : decode cX12_isFull 34 = .ok (.iconst 0, 1) := by decide +kernel
theorem dX12_isFull_35 : decode cX12_isFull 35 = .ok (.ireturn, 1) := by decide +kernel
def f_X12_isFull_23 (S : Hp) : Option (Int32 × Hp) :=
  if (S.1 0 5) = 0 then some ((0 : Int32), S) else some ((1 : Int32), S)
set_option maxHeartbeats 4000000 in
set_option maxRecDepth 100000 in
theorem w_X12_isFull_23 {p : Program} {l : Launch} {e : Env} {s : State} {m : MethodId} {args : Array Value} {below : List Frame} {meth : Method} {c : Code} {E : Ev} {S0 : Hp} {r : (Int32 × Hp)} (C : ho_I p s m args meth c RX12 cX12_isFull 4 (some .boolean)) :
    ∀ (S : Hp), f_X12_isFull_23 S = some r → ho_G p l e s m args below meth c yM E S0 1 4 (some (.int r.1), r.2) 23 [(0, .ref (E.2.1 0))] [] S := by
  intro S h H locs ls hR hl
  unfold f_X12_isFull_23 at h
  refine lv_aload_n C.1 C.2.1 dX12_isFull_23 rfl (lv_at hl 0 rfl) ?_
  refine ho_getI C cf12 fM_264 hR aM_0 dX12_isFull_24 ?_
  refine lv_if_eq (tgt := 34) C.1 C.2.1 dX12_isFull_27 (by decide) (fun hc => ?_) (fun hc => ?_)
  · replace h := if_t h hc
    refine lv_iconst (v := (0 : Int32)) C.1 C.2.1 dX12_isFull_34 (by decide) ?_
    exact ho_zret C hR (Or.inl rfl) h dX12_isFull_35
  · replace h := if_f h hc
    refine lv_iconst (v := (1 : Int32)) C.1 C.2.1 dX12_isFull_30 (by decide) ?_
    refine lv_goto (tgt := 35) C.1 C.2.1 dX12_isFull_31 (by decide) ?_
    exact ho_zret C hR (Or.inr rfl) h dX12_isFull_35
def f_X12_isFull (x1 : Int32) (x2 : Int32) (x3 : Int32) (S : Hp) : Option (Int32 × Hp) :=
  if (S.1 0 5) = 0 then ldI S 41 6 x1 (fun v1 => if v1 = x2 then ob (f_X12_fail (5 : Int32) x3 S) (fun S2 => f_X12_isFull_23 S2) else f_X12_isFull_23 S) else f_X12_isFull_23 S
set_option maxHeartbeats 4000000 in
set_option maxRecDepth 100000 in
theorem c_X12_isFull (l : Launch) (E : Ev) (x1 : Int32) (x2 : Int32) (x3 : Int32) (S : Hp) (r : (Int32 × Hp)) (h : f_X12_isFull x1 x2 x3 S = some r) : ho_M l yM E yX12_isFull cX12_isFull 4 (some .boolean) 1 [.ref (E.2.1 0), .int x1, .int x2, .int x3] S (some (.int r.1), r.2) := by
  refine ho_in (by decide) (Nat.le_of_ble_eq_true rfl) ?_
  intro p e s m args below meth c C hR ls hl
  have C : ho_I p s m args meth c RX12 cX12_isFull 4 (some .boolean) := C
  have hl : lv_has ls 4 [(0, .ref (E.2.1 0)), (1, .int x1), (2, .int x2), (3, .int x3)] := hl
  unfold f_X12_isFull at h
  refine lv_aload_n C.1 C.2.1 dX12_isFull_0 rfl (lv_at hl 0 rfl) ?_
  refine ho_getI C cf12 fM_264 hR aM_0 dX12_isFull_1 ?_
  refine lv_if_ne (tgt := 23) C.1 C.2.1 dX12_isFull_4 (by decide) (fun hc => ?_) (fun hc => ?_)
  · replace h := if_f h hc
    exact w_X12_isFull_23 C S h _ _ _ hR (lv_sub hl [0] rfl)
  · replace h := if_t h hc
    refine lv_aload_n C.1 C.2.1 dX12_isFull_7 rfl (lv_at hl 0 rfl) ?_
    refine ho_getR (a' := 41) C cf12 fM_108 hR aM_0 rfl dX12_isFull_8 ?_
    refine lv_iload_n C.1 C.2.1 dX12_isFull_11 rfl (lv_at hl 1 rfl) ?_
    obtain ⟨v1, e1, hi1, h⟩ := ldI_ok h
    refine hr_ild C hR aM_41 hi1 e1 dX12_isFull_12 ?_
    refine lv_iload_n C.1 C.2.1 dX12_isFull_13 rfl (lv_at hl 2 rfl) ?_
    refine lv_icmp_ne (tgt := 23) C.1 C.2.1 dX12_isFull_14 (by decide) (fun hc => ?_) (fun hc => ?_)
    · replace h := if_f h hc
      exact w_X12_isFull_23 C S h _ _ _ hR (lv_sub hl [0] rfl)
    · replace h := if_t h hc
      refine lv_aload_n C.1 C.2.1 dX12_isFull_17 rfl (lv_at hl 0 rfl) ?_
      refine lv_iconst (v := (5 : Int32)) C.1 C.2.1 dX12_isFull_18 (by decide) ?_
      refine lv_iload_n C.1 C.2.1 dX12_isFull_19 rfl (lv_at hl 3 rfl) ?_
      obtain ⟨S2, h2, h⟩ := ob_ok h
      refine hr_Vv (S' := S2) (As := [.int (5 : Int32), .int x3]) (rest := []) C cf12 (c_X12_fail l E (5 : Int32) x3 _ _ h2) yv_X12_fail lk_RX12_294 rfl aM_0 rfl rfl hl.1 (Nat.le_of_ble_eq_true rfl) (by decide) (by decide) hR (ho_A hR) dX12_isFull_20 (fun H locs hR => ?_)
      exact w_X12_isFull_23 C S2 h _ _ _ hR (lv_sub hl [0] rfl)
theorem dX12_nameOf_0 : decode cX12_nameOf 0 = .ok (.iconst 0, 1) := by decide +kernel
theorem dX12_nameOf_1 : decode cX12_nameOf 1 = .ok (.istore 4, 2) := by decide +kernel
theorem dX12_nameOf_3 : decode cX12_nameOf 3 = .ok (.iload 4, 2) := by decide +kernel
theorem dX12_nameOf_5 : decode cX12_nameOf 5 = .ok (.aload_n 0, 1) := by decide +kernel
theorem dX12_nameOf_6 : decode cX12_nameOf 6 = .ok (.getfield 108, 3) := by decide +kernel
theorem dX12_nameOf_9 : decode cX12_nameOf 9 = .ok (.iload_n 1, 1) := by decide +kernel
theorem dX12_nameOf_10 : decode cX12_nameOf 10 = .ok (.iaload, 1) := by decide +kernel
theorem dX12_nameOf_11 : decode cX12_nameOf 11 = .ok (.if_icmp .ge 29, 3) := by decide +kernel
theorem dX12_nameOf_14 : decode cX12_nameOf 14 = .ok (.aload_n 0, 1) := by decide +kernel
theorem dX12_nameOf_15 : decode cX12_nameOf 15 = .ok (.getfield 111, 3) := by decide +kernel
theorem dX12_nameOf_18 : decode cX12_nameOf 18 = .ok (.bipush 6, 2) := by decide +kernel
theorem dX12_nameOf_20 : decode cX12_nameOf 20 = .ok (.iload_n 1, 1) := by decide +kernel
theorem dX12_nameOf_21 : decode cX12_nameOf 21 = .ok (.imul, 1) := by decide +kernel
theorem dX12_nameOf_22 : decode cX12_nameOf 22 = .ok (.iload 4, 2) := by decide +kernel
theorem dX12_nameOf_24 : decode cX12_nameOf 24 = .ok (.iadd, 1) := by decide +kernel
theorem dX12_nameOf_25 : decode cX12_nameOf 25 = .ok (.laload, 1) := by decide +kernel
theorem dX12_nameOf_26 : decode cX12_nameOf 26 = .ok (.lload_n 2, 1) := by decide +kernel
theorem dX12_nameOf_27 : decode cX12_nameOf 27 = .ok (.lcmp, 1) := by decide +kernel
theorem dX12_nameOf_28 : decode cX12_nameOf 28 = .ok (.ifCond .ne 6, 3) := by decide +kernel
theorem dX12_nameOf_31 : decode cX12_nameOf 31 = .ok (.iload 4, 2) := by decide +kernel
theorem dX12_nameOf_33 : decode cX12_nameOf 33 = .ok (.ireturn, 1) := by decide +kernel
theorem dX12_nameOf_34 : decode cX12_nameOf 34 = .ok (.iinc 4 1, 3) := by decide +kernel
theorem dX12_nameOf_37 : decode cX12_nameOf 37 = .ok (.goto (-34), 3) := by decide +kernel
theorem dX12_nameOf_40 : decode cX12_nameOf 40 = .ok (.iconst (-1), 1) := by decide +kernel
theorem dX12_nameOf_41 : decode cX12_nameOf 41 = .ok (.ireturn, 1) := by decide +kernel
def f_X12_nameOf_3 : Nat → Int32 → Int64 → Int32 → Hp → Option (Int32 × Hp)
  | 0, _, _, _, _ => none
  | k + 1, x1, x2, x4, S => ldI S 41 6 x1 (fun v1 => if v1 ≤ x4 then some ((-1 : Int32), S) else ldJ S 42 36 (((6 : Int32) * x1) + x4) (fun v2 => if (lg_cmp v2 x2) = 0 then some (x4, S) else le1 (x4 + (1 : Int32)) (fun v3 => f_X12_nameOf_3 k x1 x2 v3 S)))
set_option maxHeartbeats 4000000 in
set_option maxRecDepth 100000 in
theorem w_X12_nameOf_3 {p : Program} {l : Launch} {e : Env} {s : State} {m : MethodId} {args : Array Value} {below : List Frame} {meth : Method} {c : Code} {E : Ev} {S0 : Hp} {r : (Int32 × Hp)} (C : ho_I p s m args meth c RX12 cX12_nameOf 5 (some .int)) :
    ∀ (k : Nat) (x1 : Int32) (x2 : Int64) (x4 : Int32) (S : Hp), f_X12_nameOf_3 k x1 x2 x4 S = some r → ho_G p l e s m args below meth c yM E S0 0 5 (some (.int r.1), r.2) 3 [(0, .ref (E.2.1 0)), (1, .int x1), (2, .long x2), (4, .int x4)] [] S := by
  intro k
  induction k with
  | zero =>
    intro x1 x2 x4 S h
    exact absurd (show (none : Option (Int32 × Hp)) = some r from h) (by simp)
  | succ k ih =>
    intro x1 x2 x4 S h H locs ls hR hl
    rw [f_X12_nameOf_3] at h
    refine lv_iload C.1 C.2.1 dX12_nameOf_3 (lv_at hl 3 rfl) ?_
    refine lv_aload_n C.1 C.2.1 dX12_nameOf_5 rfl (lv_at hl 0 rfl) ?_
    refine ho_getR (a' := 41) C cf12 fM_108 hR aM_0 rfl dX12_nameOf_6 ?_
    refine lv_iload_n C.1 C.2.1 dX12_nameOf_9 rfl (lv_at hl 1 rfl) ?_
    obtain ⟨v1, e1, hi1, h⟩ := ldI_ok h
    refine hr_ild C hR aM_41 hi1 e1 dX12_nameOf_10 ?_
    refine lv_icmp_ge (tgt := 40) C.1 C.2.1 dX12_nameOf_11 (by decide) (fun hc => ?_) (fun hc => ?_)
    · replace h := if_t h hc
      refine lv_iconst (v := (-1 : Int32)) C.1 C.2.1 dX12_nameOf_40 (by decide) ?_
      exact ho_iret C hR h dX12_nameOf_41
    · replace h := if_f h hc
      refine lv_aload_n C.1 C.2.1 dX12_nameOf_14 rfl (lv_at hl 0 rfl) ?_
      refine ho_getR (a' := 42) C cf12 fM_111 hR aM_0 rfl dX12_nameOf_15 ?_
      refine lv_bipush (v := (6 : Int32)) C.1 C.2.1 dX12_nameOf_18 (by decide) ?_
      refine lv_iload_n C.1 C.2.1 dX12_nameOf_20 rfl (lv_at hl 1 rfl) ?_
      refine lv_imul C.1 C.2.1 dX12_nameOf_21 ?_
      refine lv_iload C.1 C.2.1 dX12_nameOf_22 (lv_at hl 3 rfl) ?_
      refine lv_iadd C.1 C.2.1 dX12_nameOf_24 ?_
      obtain ⟨v2, e2, hi2, h⟩ := ldJ_ok h
      refine hr_lld C hR aM_42 hi2 e2 dX12_nameOf_25 ?_
      refine lv_lload_n C.1 C.2.1 dX12_nameOf_26 rfl (lv_at hl 2 rfl) ?_
      refine W.lcmp C.1 C.2.1 dX12_nameOf_27 ?_
      refine lv_if_ne (tgt := 34) C.1 C.2.1 dX12_nameOf_28 (by decide) (fun hc => ?_) (fun hc => ?_)
      · replace h := if_f h hc
        obtain ⟨v3, e3, h⟩ := le1_ok h
        refine lv_iinc (v := v3) (lv' := [(4, .int v3), (0, .ref (E.2.1 0)), (1, .int x1), (2, .long x2)]) C.1 C.2.1 dX12_nameOf_34 hl (k := 3) rfl (by rw [e3]; rfl) (by decide) rfl (fun ls hl => ?_)
        refine lv_goto (tgt := 3) C.1 C.2.1 dX12_nameOf_37 (by decide) ?_
        exact ih x1 x2 v3 S h _ _ _ hR (lv_sub hl [1, 2, 3, 0] rfl)
      · replace h := if_t h hc
        refine lv_iload C.1 C.2.1 dX12_nameOf_31 (lv_at hl 3 rfl) ?_
        exact ho_iret C hR h dX12_nameOf_33
def f_X12_nameOf (x1 : Int32) (x2 : Int64) (S : Hp) : Option (Int32 × Hp) :=
  f_X12_nameOf_3 5000 x1 x2 (0 : Int32) S
set_option maxHeartbeats 4000000 in
set_option maxRecDepth 100000 in
theorem c_X12_nameOf (l : Launch) (E : Ev) (x1 : Int32) (x2 : Int64) (S : Hp) (r : (Int32 × Hp)) (h : f_X12_nameOf x1 x2 S = some r) : ho_M l yM E yX12_nameOf cX12_nameOf 5 (some .int) 0 [.ref (E.2.1 0), .int x1, .long x2] S (some (.int r.1), r.2) := by
  refine ho_in (by decide) (Nat.le_of_ble_eq_true rfl) ?_
  intro p e s m args below meth c C hR ls hl
  have C : ho_I p s m args meth c RX12 cX12_nameOf 5 (some .int) := C
  have hl : lv_has ls 5 [(0, .ref (E.2.1 0)), (1, .int x1), (2, .long x2)] := hl
  unfold f_X12_nameOf at h
  refine lv_iconst (v := (0 : Int32)) C.1 C.2.1 dX12_nameOf_0 (by decide) ?_
  refine lv_istore (lv' := [(4, .int (0 : Int32)), (0, .ref (E.2.1 0)), (1, .int x1), (2, .long x2)]) C.1 C.2.1 dX12_nameOf_1 hl (by decide) rfl (fun ls hl => ?_)
  exact w_X12_nameOf_3 C 5000 x1 x2 (0 : Int32) S h _ _ _ hR (lv_sub hl [1, 2, 3, 0] rfl)
theorem dX12_newName_0 : decode cX12_newName 0 = .ok (.aload_n 0, 1) := by decide +kernel
theorem dX12_newName_1 : decode cX12_newName 1 = .ok (.invokevirtual 322, 3) := by decide +kernel
theorem dX12_newName_4 : decode cX12_newName 4 = .ok (.lstore_n 1, 1) := by decide +kernel
theorem dX12_newName_5 : decode cX12_newName 5 = .ok (.iconst 0, 1) := by decide +kernel
theorem dX12_newName_6 : decode cX12_newName 6 = .ok (.istore_n 3, 1) := by decide +kernel
theorem dX12_newName_7 : decode cX12_newName 7 = .ok (.iload_n 3, 1) := by decide +kernel
theorem dX12_newName_8 : decode cX12_newName 8 = .ok (.iconst 3, 1) := by decide +kernel
theorem dX12_newName_9 : decode cX12_newName 9 = .ok (.if_icmp .ge 35, 3) := by decide +kernel
theorem dX12_newName_12 : decode cX12_newName 12 = .ok (.aload_n 0, 1) := by decide +kernel
theorem dX12_newName_13 : decode cX12_newName 13 = .ok (.getfield 264, 3) := by decide +kernel
theorem dX12_newName_16 : decode cX12_newName 16 = .ok (.ifCond .ne 22, 3) := by decide +kernel
theorem dX12_newName_19 : decode cX12_newName 19 = .ok (.aload_n 0, 1) := by decide +kernel
theorem dX12_newName_20 : decode cX12_newName 20 = .ok (.iload_n 3, 1) := by decide +kernel
theorem dX12_newName_21 : decode cX12_newName 21 = .ok (.lload_n 1, 1) := by decide +kernel
theorem dX12_newName_22 : decode cX12_newName 22 = .ok (.invokevirtual 326, 3) := by decide +kernel
theorem dX12_newName_25 : decode cX12_newName 25 = .ok (.iconst (-1), 1) := by decide +kernel
theorem dX12_newName_26 : decode cX12_newName 26 = .ok (.if_icmp .eq 12, 3) := by decide +kernel
theorem dX12_newName_29 : decode cX12_newName 29 = .ok (.aload_n 0, 1) := by decide +kernel
theorem dX12_newName_30 : decode cX12_newName 30 = .ok (.iconst 3, 1) := by decide +kernel
theorem dX12_newName_31 : decode cX12_newName 31 = .ok (.aload_n 0, 1) := by decide +kernel
theorem dX12_newName_32 : decode cX12_newName 32 = .ok (.getfield 312, 3) := by decide +kernel
theorem dX12_newName_35 : decode cX12_newName 35 = .ok (.invokevirtual 294, 3) := by decide +kernel
theorem dX12_newName_38 : decode cX12_newName 38 = .ok (.iinc 3 1, 3) := by decide +kernel
theorem dX12_newName_41 : decode cX12_newName 41 = .ok (.goto (-34), 3) := by decide +kernel
theorem dX12_newName_44 : decode cX12_newName 44 = .ok (.lload_n 1, 1) := by decide +kernel
theorem dX12_newName_45 : decode cX12_newName 45 = .ok (.lreturn, 1) := by decide +kernel
def f_X12_newName_38 (K7 : Int64 → Int32 → Hp → Option (Int64 × Hp)) (x1 : Int64) (x3 : Int32) (S : Hp) : Option (Int64 × Hp) :=
  le1 (x3 + (1 : Int32)) (fun v1 => K7 x1 v1 S)
set_option maxHeartbeats 4000000 in
set_option maxRecDepth 100000 in
theorem w_X12_newName_38 {p : Program} {l : Launch} {e : Env} {s : State} {m : MethodId} {args : Array Value} {below : List Frame} {meth : Method} {c : Code} {E : Ev} {S0 : Hp} {r : (Int64 × Hp)} (C : ho_I p s m args meth c RX12 cX12_newName 4 (some .long)) (K7 : Int64 → Int32 → Hp → Option (Int64 × Hp)) (hK7 : ∀ (y1 : Int64) (y3 : Int32) (S : Hp), K7 y1 y3 S = some r → ho_G p l e s m args below meth c yM E S0 4 4 (some (.long r.1), r.2) 7 [(0, .ref (E.2.1 0)), (1, .long y1), (3, .int y3)] [] S) :
    ∀ (x1 : Int64) (x3 : Int32) (S : Hp), f_X12_newName_38 K7 x1 x3 S = some r → ho_G p l e s m args below meth c yM E S0 4 4 (some (.long r.1), r.2) 38 [(0, .ref (E.2.1 0)), (1, .long x1), (3, .int x3)] [] S := by
  intro x1 x3 S h H locs ls hR hl
  unfold f_X12_newName_38 at h
  obtain ⟨v1, e1, h⟩ := le1_ok h
  refine lv_iinc (v := v1) (lv' := [(3, .int v1), (0, .ref (E.2.1 0)), (1, .long x1)]) C.1 C.2.1 dX12_newName_38 hl (k := 2) rfl (by rw [e1]; rfl) (by decide) rfl (fun ls hl => ?_)
  refine lv_goto (tgt := 7) C.1 C.2.1 dX12_newName_41 (by decide) ?_
  exact hK7 x1 v1 S h _ _ _ hR (lv_sub hl [1, 2, 0] rfl)
def f_X12_newName_7 : Nat → Int64 → Int32 → Hp → Option (Int64 × Hp)
  | 0, _, _, _ => none
  | k + 1, x1, x3, S => if (3 : Int32) ≤ x3 then some (x1, S) else if (S.1 0 5) = 0 then ob2 (f_X12_nameOf x3 x1 S) (fun r1 S1 => if r1 = (-1 : Int32) then f_X12_newName_38 (f_X12_newName_7 k) x1 x3 S1 else ob (f_X12_fail (3 : Int32) (S1.1 0 39) S1) (fun S2 => f_X12_newName_38 (f_X12_newName_7 k) x1 x3 S2)) else f_X12_newName_38 (f_X12_newName_7 k) x1 x3 S
set_option maxHeartbeats 4000000 in
set_option maxRecDepth 100000 in
theorem w_X12_newName_7 {p : Program} {l : Launch} {e : Env} {s : State} {m : MethodId} {args : Array Value} {below : List Frame} {meth : Method} {c : Code} {E : Ev} {S0 : Hp} {r : (Int64 × Hp)} (C : ho_I p s m args meth c RX12 cX12_newName 4 (some .long)) :
    ∀ (k : Nat) (x1 : Int64) (x3 : Int32) (S : Hp), f_X12_newName_7 k x1 x3 S = some r → ho_G p l e s m args below meth c yM E S0 4 4 (some (.long r.1), r.2) 7 [(0, .ref (E.2.1 0)), (1, .long x1), (3, .int x3)] [] S := by
  intro k
  induction k with
  | zero =>
    intro x1 x3 S h
    exact absurd (show (none : Option (Int64 × Hp)) = some r from h) (by simp)
  | succ k ih =>
    intro x1 x3 S h H locs ls hR hl
    rw [f_X12_newName_7] at h
    refine lv_iload_n C.1 C.2.1 dX12_newName_7 rfl (lv_at hl 2 rfl) ?_
    refine lv_iconst (v := (3 : Int32)) C.1 C.2.1 dX12_newName_8 (by decide) ?_
    refine lv_icmp_ge (tgt := 44) C.1 C.2.1 dX12_newName_9 (by decide) (fun hc => ?_) (fun hc => ?_)
    · replace h := if_t h hc
      refine lv_lload_n C.1 C.2.1 dX12_newName_44 rfl (lv_at hl 1 rfl) ?_
      exact ho_lret C hR h dX12_newName_45
    · replace h := if_f h hc
      refine lv_aload_n C.1 C.2.1 dX12_newName_12 rfl (lv_at hl 0 rfl) ?_
      refine ho_getI C cf12 fM_264 hR aM_0 dX12_newName_13 ?_
      refine lv_if_ne (tgt := 38) C.1 C.2.1 dX12_newName_16 (by decide) (fun hc => ?_) (fun hc => ?_)
      · replace h := if_f h hc
        exact w_X12_newName_38 C (f_X12_newName_7 k) ih x1 x3 S h _ _ _ hR (lv_sub hl [0, 1, 2] rfl)
      · replace h := if_t h hc
        refine lv_aload_n C.1 C.2.1 dX12_newName_19 rfl (lv_at hl 0 rfl) ?_
        refine lv_iload_n C.1 C.2.1 dX12_newName_20 rfl (lv_at hl 2 rfl) ?_
        refine lv_lload_n C.1 C.2.1 dX12_newName_21 rfl (lv_at hl 1 rfl) ?_
        obtain ⟨r1, S1, h1, h⟩ := ob2_ok h
        refine hr_Vi (v := r1) (S' := S1) (As := [.int x3, .long x1]) (rest := []) C cf12 (c_X12_nameOf l E x3 x1 _ _ h1) yv_X12_nameOf lk_RX12_326 rfl aM_0 rfl rfl hl.1 (Nat.le_of_ble_eq_true rfl) (by decide) (by decide) hR (ho_A hR) dX12_newName_22 (fun H locs hR => ?_)
        refine lv_iconst (v := (-1 : Int32)) C.1 C.2.1 dX12_newName_25 (by decide) ?_
        refine lv_icmp_eq (tgt := 38) C.1 C.2.1 dX12_newName_26 (by decide) (fun hc => ?_) (fun hc => ?_)
        · replace h := if_t h hc
          exact w_X12_newName_38 C (f_X12_newName_7 k) ih x1 x3 S1 h _ _ _ hR (lv_sub hl [0, 1, 2] rfl)
        · replace h := if_f h hc
          refine lv_aload_n C.1 C.2.1 dX12_newName_29 rfl (lv_at hl 0 rfl) ?_
          refine lv_iconst (v := (3 : Int32)) C.1 C.2.1 dX12_newName_30 (by decide) ?_
          refine lv_aload_n C.1 C.2.1 dX12_newName_31 rfl (lv_at hl 0 rfl) ?_
          refine ho_getI C cf12 fM_312 hR aM_0 dX12_newName_32 ?_
          obtain ⟨S2, h2, h⟩ := ob_ok h
          refine hr_Vv (S' := S2) (As := [.int (3 : Int32), .int (S1.1 0 39)]) (rest := []) C cf12 (c_X12_fail l E (3 : Int32) (S1.1 0 39) _ _ h2) yv_X12_fail lk_RX12_294 rfl aM_0 rfl rfl hl.1 (Nat.le_of_ble_eq_true rfl) (by decide) (by decide) hR (ho_A hR) dX12_newName_35 (fun H locs hR => ?_)
          exact w_X12_newName_38 C (f_X12_newName_7 k) ih x1 x3 S2 h _ _ _ hR (lv_sub hl [0, 1, 2] rfl)
def f_X12_newName (S : Hp) : Option (Int64 × Hp) :=
  ob2 (f_X12_name S) (fun r1 S1 => f_X12_newName_7 5000 r1 (0 : Int32) S1)
set_option maxHeartbeats 4000000 in
set_option maxRecDepth 100000 in
theorem c_X12_newName (l : Launch) (E : Ev) (S : Hp) (r : (Int64 × Hp)) (h : f_X12_newName S = some r) : ho_M l yM E yX12_newName cX12_newName 4 (some .long) 4 [.ref (E.2.1 0)] S (some (.long r.1), r.2) := by
  refine ho_in (by decide) (Nat.le_of_ble_eq_true rfl) ?_
  intro p e s m args below meth c C hR ls hl
  have C : ho_I p s m args meth c RX12 cX12_newName 4 (some .long) := C
  have hl : lv_has ls 4 [(0, .ref (E.2.1 0))] := hl
  unfold f_X12_newName at h
  refine lv_aload_n C.1 C.2.1 dX12_newName_0 rfl (lv_at hl 0 rfl) ?_
  obtain ⟨r1, S1, h1, h⟩ := ob2_ok h
  refine hr_Vl (w := r1) (S' := S1) (As := []) (rest := []) C cf12 (c_X12_name l E _ _ h1) yv_X12_name lk_RX12_322 rfl aM_0 rfl rfl hl.1 (Nat.le_of_ble_eq_true rfl) (by decide) (by decide) hR (ho_A hR) dX12_newName_1 (fun H locs hR => ?_)
  refine lv_lstore_n (lv' := [(1, .long r1), (0, .ref (E.2.1 0))]) C.1 C.2.1 dX12_newName_4 rfl hl (by decide) rfl (fun ls hl => ?_)
  refine lv_iconst (v := (0 : Int32)) C.1 C.2.1 dX12_newName_5 (by decide) ?_
  refine lv_istore_n (lv' := [(3, .int (0 : Int32)), (1, .long r1), (0, .ref (E.2.1 0))]) C.1 C.2.1 dX12_newName_6 rfl hl (by decide) rfl (fun ls hl => ?_)
  exact w_X12_newName_7 C 5000 r1 (0 : Int32) S1 h _ _ _ hR (lv_sub hl [2, 1, 0] rfl)
theorem dX12_adds_0 : decode cX12_adds 0 = .ok (.aload_n 0, 1) := by decide +kernel
theorem dX12_adds_1 : decode cX12_adds 1 = .ok (.getfield 111, 3) := by decide +kernel
theorem dX12_adds_4 : decode cX12_adds 4 = .ok (.bipush 6, 2) := by decide +kernel
theorem dX12_adds_6 : decode cX12_adds 6 = .ok (.iload_n 1, 1) := by decide +kernel
theorem dX12_adds_7 : decode cX12_adds 7 = .ok (.imul, 1) := by decide +kernel
theorem dX12_adds_8 : decode cX12_adds 8 = .ok (.aload_n 0, 1) := by decide +kernel
theorem dX12_adds_9 : decode cX12_adds 9 = .ok (.getfield 108, 3) := by decide +kernel
theorem dX12_adds_12 : decode cX12_adds 12 = .ok (.iload_n 1, 1) := by decide +kernel
theorem dX12_adds_13 : decode cX12_adds 13 = .ok (.iaload, 1) := by decide +kernel
theorem dX12_adds_14 : decode cX12_adds 14 = .ok (.iadd, 1) := by decide +kernel
theorem dX12_adds_15 : decode cX12_adds 15 = .ok (.lload_n 2, 1) := by decide +kernel
theorem dX12_adds_16 : decode cX12_adds 16 = .ok (.lastore, 1) := by decide +kernel
theorem dX12_adds_17 : decode cX12_adds 17 = .ok (.aload_n 0, 1) := by decide +kernel
theorem dX12_adds_18 : decode cX12_adds 18 = .ok (.getfield 108, 3) := by decide +kernel
theorem dX12_adds_21 : decode cX12_adds 21 = .ok (.iload_n 1, 1) := by decide +kernel
theorem dX12_adds_22 : decode cX12_adds 22 = .ok (.dup2, 1) := by decide +kernel
theorem dX12_adds_23 : decode cX12_adds 23 = .ok (.iaload, 1) := by decide +kernel
theorem dX12_adds_24 : decode cX12_adds 24 = .ok (.iconst 1, 1) := by decide +kernel
theorem dX12_adds_25 : decode cX12_adds 25 = .ok (.iadd, 1) := by decide +kernel
theorem dX12_adds_26 : decode cX12_adds 26 = .ok (.iastore, 1) := by decide +kernel
theorem dX12_adds_27 : decode cX12_adds 27 = .ok (.aload_n 0, 1) := by decide +kernel
theorem dX12_adds_28 : decode cX12_adds 28 = .ok (.getfield 108, 3) := by decide +kernel
theorem dX12_adds_31 : decode cX12_adds 31 = .ok (.iload_n 1, 1) := by decide +kernel
theorem dX12_adds_32 : decode cX12_adds 32 = .ok (.iaload, 1) := by decide +kernel
theorem dX12_adds_33 : decode cX12_adds 33 = .ok (.iconst 1, 1) := by decide +kernel
theorem dX12_adds_34 : decode cX12_adds 34 = .ok (.isub, 1) := by decide +kernel
theorem dX12_adds_35 : decode cX12_adds 35 = .ok (.ireturn, 1) := by decide +kernel
def f_X12_adds (x1 : Int32) (x2 : Int64) (S : Hp) : Option (Int32 × Hp) :=
  ldI S 41 6 x1 (fun v1 => stJ S 42 36 (((6 : Int32) * x1) + v1) x2 (fun S2 => ldI S2 41 6 x1 (fun v3 => stI S2 41 6 x1 (v3 + (1 : Int32)) (fun S4 => ldI S4 41 6 x1 (fun v5 => some ((v5 - (1 : Int32)), S4))))))
set_option maxHeartbeats 4000000 in
set_option maxRecDepth 100000 in
theorem c_X12_adds (l : Launch) (E : Ev) (x1 : Int32) (x2 : Int64) (S : Hp) (r : (Int32 × Hp)) (h : f_X12_adds x1 x2 S = some r) : ho_M l yM E yX12_adds cX12_adds 4 (some .int) 0 [.ref (E.2.1 0), .int x1, .long x2] S (some (.int r.1), r.2) := by
  refine ho_in (by decide) (Nat.le_of_ble_eq_true rfl) ?_
  intro p e s m args below meth c C hR ls hl
  have C : ho_I p s m args meth c RX12 cX12_adds 4 (some .int) := C
  have hl : lv_has ls 4 [(0, .ref (E.2.1 0)), (1, .int x1), (2, .long x2)] := hl
  unfold f_X12_adds at h
  refine lv_aload_n C.1 C.2.1 dX12_adds_0 rfl (lv_at hl 0 rfl) ?_
  refine ho_getR (a' := 42) C cf12 fM_111 hR aM_0 rfl dX12_adds_1 ?_
  refine lv_bipush (v := (6 : Int32)) C.1 C.2.1 dX12_adds_4 (by decide) ?_
  refine lv_iload_n C.1 C.2.1 dX12_adds_6 rfl (lv_at hl 1 rfl) ?_
  refine lv_imul C.1 C.2.1 dX12_adds_7 ?_
  refine lv_aload_n C.1 C.2.1 dX12_adds_8 rfl (lv_at hl 0 rfl) ?_
  refine ho_getR (a' := 41) C cf12 fM_108 hR aM_0 rfl dX12_adds_9 ?_
  refine lv_iload_n C.1 C.2.1 dX12_adds_12 rfl (lv_at hl 1 rfl) ?_
  obtain ⟨v1, e1, hi1, h⟩ := ldI_ok h
  refine hr_ild C hR aM_41 hi1 e1 dX12_adds_13 ?_
  refine lv_iadd C.1 C.2.1 dX12_adds_14 ?_
  refine lv_lload_n C.1 C.2.1 dX12_adds_15 rfl (lv_at hl 2 rfl) ?_
  obtain ⟨S2, e2, hi2, h⟩ := stJ_ok h
  refine hr_lst C hR aM_42 hi2 e2 dX12_adds_16 (fun H locs hR => ?_)
  refine lv_aload_n C.1 C.2.1 dX12_adds_17 rfl (lv_at hl 0 rfl) ?_
  refine ho_getR (a' := 41) C cf12 fM_108 hR aM_0 rfl dX12_adds_18 ?_
  refine lv_iload_n C.1 C.2.1 dX12_adds_21 rfl (lv_at hl 1 rfl) ?_
  refine lv_dup2_11 C.1 C.2.1 dX12_adds_22 rfl rfl ?_
  obtain ⟨v3, e3, hi3, h⟩ := ldI_ok h
  refine hr_ild C hR aM_41 hi3 e3 dX12_adds_23 ?_
  refine lv_iconst (v := (1 : Int32)) C.1 C.2.1 dX12_adds_24 (by decide) ?_
  refine lv_iadd C.1 C.2.1 dX12_adds_25 ?_
  obtain ⟨S4, e4, hi4, h⟩ := stI_ok h
  refine hr_ist C hR aM_41 hi4 e4 dX12_adds_26 (fun H locs hR => ?_)
  refine lv_aload_n C.1 C.2.1 dX12_adds_27 rfl (lv_at hl 0 rfl) ?_
  refine ho_getR (a' := 41) C cf12 fM_108 hR aM_0 rfl dX12_adds_28 ?_
  refine lv_iload_n C.1 C.2.1 dX12_adds_31 rfl (lv_at hl 1 rfl) ?_
  obtain ⟨v5, e5, hi5, h⟩ := ldI_ok h
  refine hr_ild C hR aM_41 hi5 e5 dX12_adds_32 ?_
  refine lv_iconst (v := (1 : Int32)) C.1 C.2.1 dX12_adds_33 (by decide) ?_
  refine lv_isub C.1 C.2.1 dX12_adds_34 ?_
  exact ho_iret C hR h dX12_adds_35
