theorem dX12_isIn_0 : decode cX12_isIn 0 = .ok (.lload_n 0, 1) := by decide +kernel
theorem dX12_isIn_1 : decode cX12_isIn 1 = .ok (.lload_n 2, 1) := by decide +kernel
theorem dX12_isIn_2 : decode cX12_isIn 2 = .ok (.lcmp, 1) := by decide +kernel
theorem dX12_isIn_3 : decode cX12_isIn 3 = .ok (.ifCond .lt 14, 3) := by decide +kernel
theorem dX12_isIn_6 : decode cX12_isIn 6 = .ok (.lload_n 0, 1) := by decide +kernel
theorem dX12_isIn_7 : decode cX12_isIn 7 = .ok (.lload 4, 2) := by decide +kernel
theorem dX12_isIn_9 : decode cX12_isIn 9 = .ok (.lcmp, 1) := by decide +kernel
theorem dX12_isIn_10 : decode cX12_isIn 10 = .ok (.ifCond .gt 7, 3) := by decide +kernel
theorem dX12_isIn_13 : decode cX12_isIn 13 = .ok (.iconst 1, 1) := by decide +kernel
theorem dX12_isIn_14 : decode cX12_isIn 14 = .ok (.goto 4, 3) := by decide +kernel
theorem dX12_isIn_17 : decode cX12_isIn 17 = .ok (.iconst 0, 1) := by decide +kernel
theorem dX12_isIn_18 : decode cX12_isIn 18 = .ok (.ireturn, 1) := by decide +kernel
def f_X12_isIn (x0 : Int64) (x2 : Int64) (x4 : Int64) (S : Hp) : Option (Int32 × Hp) :=
  if (lg_cmp x0 x2) < 0 then some ((0 : Int32), S) else if 0 < (lg_cmp x0 x4) then some ((0 : Int32), S) else some ((1 : Int32), S)
set_option maxHeartbeats 4000000 in
set_option maxRecDepth 100000 in
theorem c_X12_isIn (l : Launch) (E : Ev) (x0 : Int64) (x2 : Int64) (x4 : Int64) (S : Hp) (r : (Int32 × Hp)) (h : f_X12_isIn x0 x2 x4 S = some r) : ho_M l yM E yX12_isIn cX12_isIn 6 (some .boolean) 0 [.long x0, .long x2, .long x4] S (some (.int r.1), r.2) := by
  refine ho_in (by decide) (Nat.le_of_ble_eq_true rfl) ?_
  intro p e s m args below meth c C hR ls hl
  have C : ho_I p s m args meth c RX12 cX12_isIn 6 (some .boolean) := C
  have hl : lv_has ls 6 [(0, .long x0), (2, .long x2), (4, .long x4)] := hl
  unfold f_X12_isIn at h
  refine lv_lload_n C.1 C.2.1 dX12_isIn_0 rfl (lv_at hl 0 rfl) ?_
  refine lv_lload_n C.1 C.2.1 dX12_isIn_1 rfl (lv_at hl 1 rfl) ?_
  refine W.lcmp C.1 C.2.1 dX12_isIn_2 ?_
  refine lv_if_lt (tgt := 17) C.1 C.2.1 dX12_isIn_3 (by decide) (fun hc => ?_) (fun hc => ?_)
  · replace h := if_t h hc
    refine lv_iconst (v := (0 : Int32)) C.1 C.2.1 dX12_isIn_17 (by decide) ?_
    exact ho_zret C hR (Or.inl rfl) h dX12_isIn_18
  · replace h := if_f h hc
    refine lv_lload_n C.1 C.2.1 dX12_isIn_6 rfl (lv_at hl 0 rfl) ?_
    refine lv_lload C.1 C.2.1 dX12_isIn_7 (lv_at hl 2 rfl) ?_
    refine W.lcmp C.1 C.2.1 dX12_isIn_9 ?_
    refine lv_if_gt (tgt := 17) C.1 C.2.1 dX12_isIn_10 (by decide) (fun hc => ?_) (fun hc => ?_)
    · replace h := if_t h hc
      refine lv_iconst (v := (0 : Int32)) C.1 C.2.1 dX12_isIn_17 (by decide) ?_
      exact ho_zret C hR (Or.inl rfl) h dX12_isIn_18
    · replace h := if_f h hc
      refine lv_iconst (v := (1 : Int32)) C.1 C.2.1 dX12_isIn_13 (by decide) ?_
      refine lv_goto (tgt := 18) C.1 C.2.1 dX12_isIn_14 (by decide) ?_
      exact ho_zret C hR (Or.inr rfl) h dX12_isIn_18
theorem dX12_feed_0 : decode cX12_feed 0 = .ok (.aload_n 0, 1) := by decide +kernel
theorem dX12_feed_1 : decode cX12_feed 1 = .ok (.getfield 261, 3) := by decide +kernel
theorem dX12_feed_4 : decode cX12_feed 4 = .ok (.bipush 20, 2) := by decide +kernel
theorem dX12_feed_6 : decode cX12_feed 6 = .ok (.iadd, 1) := by decide +kernel
theorem dX12_feed_7 : decode cX12_feed 7 = .ok (.sipush 1600, 3) := by decide +kernel
theorem dX12_feed_10 : decode cX12_feed 10 = .ok (.if_icmp .le 15, 3) := by decide +kernel
theorem dX12_feed_13 : decode cX12_feed 13 = .ok (.aload_n 0, 1) := by decide +kernel
theorem dX12_feed_14 : decode cX12_feed 14 = .ok (.getfield 17, 3) := by decide +kernel
theorem dX12_feed_17 : decode cX12_feed 17 = .ok (.iconst 0, 1) := by decide +kernel
theorem dX12_feed_18 : decode cX12_feed 18 = .ok (.dup2, 1) := by decide +kernel
theorem dX12_feed_19 : decode cX12_feed 19 = .ok (.iaload, 1) := by decide +kernel
theorem dX12_feed_20 : decode cX12_feed 20 = .ok (.iconst 1, 1) := by decide +kernel
theorem dX12_feed_21 : decode cX12_feed 21 = .ok (.iadd, 1) := by decide +kernel
theorem dX12_feed_22 : decode cX12_feed 22 = .ok (.iastore, 1) := by decide +kernel
theorem dX12_feed_23 : decode cX12_feed 23 = .ok (.iconst (-1), 1) := by decide +kernel
theorem dX12_feed_24 : decode cX12_feed 24 = .ok (.ireturn, 1) := by decide +kernel
theorem dX12_feed_25 : decode cX12_feed 25 = .ok (.iconst 0, 1) := by decide +kernel
theorem dX12_feed_26 : decode cX12_feed 26 = .ok (.istore 6, 2) := by decide +kernel
theorem dX12_feed_28 : decode cX12_feed 28 = .ok (.iload 6, 2) := by decide +kernel
theorem dX12_feed_30 : decode cX12_feed 30 = .ok (.bipush 20, 2) := by decide +kernel
theorem dX12_feed_32 : decode cX12_feed 32 = .ok (.if_icmp .ge 92, 3) := by decide +kernel
theorem dX12_feed_35 : decode cX12_feed 35 = .ok (.iload 6, 2) := by decide +kernel
theorem dX12_feed_37 : decode cX12_feed 37 = .ok (.iconst 4, 1) := by decide +kernel
theorem dX12_feed_38 : decode cX12_feed 38 = .ok (.if_icmp .ge 7, 3) := by decide +kernel
theorem dX12_feed_41 : decode cX12_feed 41 = .ok (.iload_n 1, 1) := by decide +kernel
theorem dX12_feed_42 : decode cX12_feed 42 = .ok (.goto 39, 3) := by decide +kernel
theorem dX12_feed_45 : decode cX12_feed 45 = .ok (.iload 6, 2) := by decide +kernel
theorem dX12_feed_47 : decode cX12_feed 47 = .ok (.bipush 8, 2) := by decide +kernel
theorem dX12_feed_49 : decode cX12_feed 49 = .ok (.if_icmp .ge 7, 3) := by decide +kernel
theorem dX12_feed_52 : decode cX12_feed 52 = .ok (.iload_n 2, 1) := by decide +kernel
theorem dX12_feed_53 : decode cX12_feed 53 = .ok (.goto 28, 3) := by decide +kernel
theorem dX12_feed_56 : decode cX12_feed 56 = .ok (.iload 6, 2) := by decide +kernel
theorem dX12_feed_58 : decode cX12_feed 58 = .ok (.bipush 12, 2) := by decide +kernel
theorem dX12_feed_60 : decode cX12_feed 60 = .ok (.if_icmp .ge 7, 3) := by decide +kernel
theorem dX12_feed_63 : decode cX12_feed 63 = .ok (.iload_n 3, 1) := by decide +kernel
theorem dX12_feed_64 : decode cX12_feed 64 = .ok (.goto 17, 3) := by decide +kernel
theorem dX12_feed_67 : decode cX12_feed 67 = .ok (.iload 6, 2) := by decide +kernel
theorem dX12_feed_69 : decode cX12_feed 69 = .ok (.bipush 16, 2) := by decide +kernel
theorem dX12_feed_71 : decode cX12_feed 71 = .ok (.if_icmp .ge 8, 3) := by decide +kernel
theorem dX12_feed_74 : decode cX12_feed 74 = .ok (.iload 4, 2) := by decide +kernel
theorem dX12_feed_76 : decode cX12_feed 76 = .ok (.goto 5, 3) := by decide +kernel
theorem dX12_feed_79 : decode cX12_feed 79 = .ok (.iload 5, 2) := by decide +kernel
theorem dX12_feed_81 : decode cX12_feed 81 = .ok (.istore 7, 2) := by decide +kernel
theorem dX12_feed_83 : decode cX12_feed 83 = .ok (.aload_n 0, 1) := by decide +kernel
theorem dX12_feed_84 : decode cX12_feed 84 = .ok (.getfield 7, 3) := by decide +kernel
theorem dX12_feed_87 : decode cX12_feed 87 = .ok (.aload_n 0, 1) := by decide +kernel
theorem dX12_feed_88 : decode cX12_feed 88 = .ok (.getfield 261, 3) := by decide +kernel
theorem dX12_feed_91 : decode cX12_feed 91 = .ok (.iload 7, 2) := by decide +kernel
theorem dX12_feed_93 : decode cX12_feed 93 = .ok (.bipush 8, 2) := by decide +kernel
theorem dX12_feed_95 : decode cX12_feed 95 = .ok (.iconst 3, 1) := by decide +kernel
theorem dX12_feed_96 : decode cX12_feed 96 = .ok (.iload 6, 2) := by decide +kernel
theorem dX12_feed_98 : decode cX12_feed 98 = .ok (.iconst 4, 1) := by decide +kernel
theorem dX12_feed_99 : decode cX12_feed 99 = .ok (.irem, 1) := by decide +kernel
theorem dX12_feed_100 : decode cX12_feed 100 = .ok (.isub, 1) := by decide +kernel
theorem dX12_feed_101 : decode cX12_feed 101 = .ok (.imul, 1) := by decide +kernel
theorem dX12_feed_102 : decode cX12_feed 102 = .ok (.ishr, 1) := by decide +kernel
theorem dX12_feed_103 : decode cX12_feed 103 = .ok (.sipush 255, 3) := by decide +kernel
theorem dX12_feed_106 : decode cX12_feed 106 = .ok (.iand, 1) := by decide +kernel
theorem dX12_feed_107 : decode cX12_feed 107 = .ok (.iastore, 1) := by decide +kernel
theorem dX12_feed_108 : decode cX12_feed 108 = .ok (.aload_n 0, 1) := by decide +kernel
theorem dX12_feed_109 : decode cX12_feed 109 = .ok (.dup, 1) := by decide +kernel
theorem dX12_feed_110 : decode cX12_feed 110 = .ok (.getfield 261, 3) := by decide +kernel
theorem dX12_feed_113 : decode cX12_feed 113 = .ok (.iconst 1, 1) := by decide +kernel
theorem dX12_feed_114 : decode cX12_feed 114 = .ok (.iadd, 1) := by decide +kernel
theorem dX12_feed_115 : decode cX12_feed 115 = .ok (.putfield 261, 3) := by decide +kernel
theorem dX12_feed_118 : decode cX12_feed 118 = .ok (.iinc 6 1, 3) := by decide +kernel
theorem dX12_feed_121 : decode cX12_feed 121 = .ok (.goto (-93), 3) := by decide +kernel
theorem dX12_feed_124 : decode cX12_feed 124 = .ok (.aload_n 0, 1) := by decide +kernel
theorem dX12_feed_125 : decode cX12_feed 125 = .ok (.getfield 261, 3) := by decide +kernel
theorem dX12_feed_128 : decode cX12_feed 128 = .ok (.ireturn, 1) := by decide +kernel
def f_X12_feed_81 (K28 : Int32 → Int32 → Int32 → Int32 → Int32 → Int32 → Hp → Option (Int32 × Hp)) (x1 : Int32) (x2 : Int32) (x3 : Int32) (x4 : Int32) (x5 : Int32) (x6 : Int32) (z0 : Int32) (S : Hp) : Option (Int32 × Hp) :=
  stI S 1 1600 (S.1 0 1) ((z0 >>> (((8 : Int32) * ((3 : Int32) - (x6 - x6 / (4 : Int32) * (4 : Int32)))) &&& 31)) &&& (255 : Int32)) (fun S1 => le1 (ho_sI S1 0 1 ((S1.1 0 1) + (1 : Int32))) (fun S2 => le1 (x6 + (1 : Int32)) (fun v3 => K28 x1 x2 x3 x4 x5 v3 S2)))
set_option maxHeartbeats 4000000 in
set_option maxRecDepth 100000 in
theorem w_X12_feed_81 {p : Program} {l : Launch} {e : Env} {s : State} {m : MethodId} {args : Array Value} {below : List Frame} {meth : Method} {c : Code} {E : Ev} {S0 : Hp} {r : (Int32 × Hp)} (C : ho_I p s m args meth c RX12 cX12_feed 8 (some .int)) (K28 : Int32 → Int32 → Int32 → Int32 → Int32 → Int32 → Hp → Option (Int32 × Hp)) (hK28 : ∀ (y1 : Int32) (y2 : Int32) (y3 : Int32) (y4 : Int32) (y5 : Int32) (y6 : Int32) (S : Hp), K28 y1 y2 y3 y4 y5 y6 S = some r → ho_G p l e s m args below meth c yM E S0 0 8 (some (.int r.1), r.2) 28 [(0, .ref (E.2.1 0)), (1, .int y1), (2, .int y2), (3, .int y3), (4, .int y4), (5, .int y5), (6, .int y6)] [] S) :
    ∀ (x1 : Int32) (x2 : Int32) (x3 : Int32) (x4 : Int32) (x5 : Int32) (x6 : Int32) (z0 : Int32) (S : Hp), f_X12_feed_81 K28 x1 x2 x3 x4 x5 x6 z0 S = some r → ho_G p l e s m args below meth c yM E S0 0 8 (some (.int r.1), r.2) 81 [(0, .ref (E.2.1 0)), (1, .int x1), (2, .int x2), (3, .int x3), (4, .int x4), (5, .int x5), (6, .int x6)] [.int z0] S := by
  intro x1 x2 x3 x4 x5 x6 z0 S h H locs ls hR hl
  unfold f_X12_feed_81 at h
  refine lv_istore (lv' := [(7, .int z0), (0, .ref (E.2.1 0)), (1, .int x1), (2, .int x2), (3, .int x3), (4, .int x4), (5, .int x5), (6, .int x6)]) C.1 C.2.1 dX12_feed_81 hl (by decide) rfl (fun ls hl => ?_)
  refine lv_aload_n C.1 C.2.1 dX12_feed_83 rfl (lv_at hl 1 rfl) ?_
  refine ho_getR (a' := 1) C cf12 fM_7 hR aM_0 rfl dX12_feed_84 ?_
  refine lv_aload_n C.1 C.2.1 dX12_feed_87 rfl (lv_at hl 1 rfl) ?_
  refine ho_getI C cf12 fM_261 hR aM_0 dX12_feed_88 ?_
  refine lv_iload C.1 C.2.1 dX12_feed_91 (lv_at hl 0 rfl) ?_
  refine lv_bipush (v := (8 : Int32)) C.1 C.2.1 dX12_feed_93 (by decide) ?_
  refine lv_iconst (v := (3 : Int32)) C.1 C.2.1 dX12_feed_95 (by decide) ?_
  refine lv_iload C.1 C.2.1 dX12_feed_96 (lv_at hl 7 rfl) ?_
  refine lv_iconst (v := (4 : Int32)) C.1 C.2.1 dX12_feed_98 (by decide) ?_
  refine lv_irem C.1 C.2.1 dX12_feed_99 (by decide) ?_
  refine lv_isub C.1 C.2.1 dX12_feed_100 ?_
  refine lv_imul C.1 C.2.1 dX12_feed_101 ?_
  refine lv_ishr C.1 C.2.1 dX12_feed_102 ?_
  refine lv_sipush (v := (255 : Int32)) C.1 C.2.1 dX12_feed_103 (by decide) ?_
  refine lv_iand C.1 C.2.1 dX12_feed_106 ?_
  obtain ⟨S1, e1, hi1, h⟩ := stI_ok h
  refine hr_ist C hR aM_1 hi1 e1 dX12_feed_107 (fun H locs hR => ?_)
  refine lv_aload_n C.1 C.2.1 dX12_feed_108 rfl (lv_at hl 1 rfl) ?_
  refine lv_dup C.1 C.2.1 dX12_feed_109 rfl ?_
  refine ho_getI C cf12 fM_261 hR aM_0 dX12_feed_110 ?_
  refine lv_iconst (v := (1 : Int32)) C.1 C.2.1 dX12_feed_113 (by decide) ?_
  refine lv_iadd C.1 C.2.1 dX12_feed_114 ?_
  obtain ⟨S2, e2, h⟩ := le1_ok h
  refine hr_putI C cf12 fM_261 hR aM_0 e2 dX12_feed_115 (fun H locs hR => ?_)
  obtain ⟨v3, e3, h⟩ := le1_ok h
  refine lv_iinc (v := v3) (lv' := [(6, .int v3), (7, .int z0), (0, .ref (E.2.1 0)), (1, .int x1), (2, .int x2), (3, .int x3), (4, .int x4), (5, .int x5)]) C.1 C.2.1 dX12_feed_118 hl (k := 7) rfl (by rw [e3]; rfl) (by decide) rfl (fun ls hl => ?_)
  refine lv_goto (tgt := 28) C.1 C.2.1 dX12_feed_121 (by decide) ?_
  exact hK28 x1 x2 x3 x4 x5 v3 S2 h _ _ _ hR (lv_sub hl [2, 3, 4, 5, 6, 7, 0] rfl)
def f_X12_feed_28 : Nat → Int32 → Int32 → Int32 → Int32 → Int32 → Int32 → Hp → Option (Int32 × Hp)
  | 0, _, _, _, _, _, _, _ => none
  | k + 1, x1, x2, x3, x4, x5, x6, S => if (20 : Int32) ≤ x6 then some ((S.1 0 1), S) else if (4 : Int32) ≤ x6 then if (8 : Int32) ≤ x6 then if (12 : Int32) ≤ x6 then if (16 : Int32) ≤ x6 then f_X12_feed_81 (f_X12_feed_28 k) x1 x2 x3 x4 x5 x6 x5 S else f_X12_feed_81 (f_X12_feed_28 k) x1 x2 x3 x4 x5 x6 x4 S else f_X12_feed_81 (f_X12_feed_28 k) x1 x2 x3 x4 x5 x6 x3 S else f_X12_feed_81 (f_X12_feed_28 k) x1 x2 x3 x4 x5 x6 x2 S else f_X12_feed_81 (f_X12_feed_28 k) x1 x2 x3 x4 x5 x6 x1 S
set_option maxHeartbeats 4000000 in
set_option maxRecDepth 100000 in
theorem w_X12_feed_28 {p : Program} {l : Launch} {e : Env} {s : State} {m : MethodId} {args : Array Value} {below : List Frame} {meth : Method} {c : Code} {E : Ev} {S0 : Hp} {r : (Int32 × Hp)} (C : ho_I p s m args meth c RX12 cX12_feed 8 (some .int)) :
    ∀ (k : Nat) (x1 : Int32) (x2 : Int32) (x3 : Int32) (x4 : Int32) (x5 : Int32) (x6 : Int32) (S : Hp), f_X12_feed_28 k x1 x2 x3 x4 x5 x6 S = some r → ho_G p l e s m args below meth c yM E S0 0 8 (some (.int r.1), r.2) 28 [(0, .ref (E.2.1 0)), (1, .int x1), (2, .int x2), (3, .int x3), (4, .int x4), (5, .int x5), (6, .int x6)] [] S := by
  intro k
  induction k with
  | zero =>
    intro x1 x2 x3 x4 x5 x6 S h
    exact absurd (show (none : Option (Int32 × Hp)) = some r from h) (by simp)
  | succ k ih =>
    intro x1 x2 x3 x4 x5 x6 S h H locs ls hR hl
    rw [f_X12_feed_28] at h
    refine lv_iload C.1 C.2.1 dX12_feed_28 (lv_at hl 6 rfl) ?_
    refine lv_bipush (v := (20 : Int32)) C.1 C.2.1 dX12_feed_30 (by decide) ?_
    refine lv_icmp_ge (tgt := 124) C.1 C.2.1 dX12_feed_32 (by decide) (fun hc => ?_) (fun hc => ?_)
    · replace h := if_t h hc
      refine lv_aload_n C.1 C.2.1 dX12_feed_124 rfl (lv_at hl 0 rfl) ?_
      refine ho_getI C cf12 fM_261 hR aM_0 dX12_feed_125 ?_
      exact ho_iret C hR h dX12_feed_128
    · replace h := if_f h hc
      refine lv_iload C.1 C.2.1 dX12_feed_35 (lv_at hl 6 rfl) ?_
      refine lv_iconst (v := (4 : Int32)) C.1 C.2.1 dX12_feed_37 (by decide) ?_
      refine lv_icmp_ge (tgt := 45) C.1 C.2.1 dX12_feed_38 (by decide) (fun hc => ?_) (fun hc => ?_)
      · replace h := if_t h hc
        refine lv_iload C.1 C.2.1 dX12_feed_45 (lv_at hl 6 rfl) ?_
        refine lv_bipush (v := (8 : Int32)) C.1 C.2.1 dX12_feed_47 (by decide) ?_
        refine lv_icmp_ge (tgt := 56) C.1 C.2.1 dX12_feed_49 (by decide) (fun hc => ?_) (fun hc => ?_)
        · replace h := if_t h hc
          refine lv_iload C.1 C.2.1 dX12_feed_56 (lv_at hl 6 rfl) ?_
          refine lv_bipush (v := (12 : Int32)) C.1 C.2.1 dX12_feed_58 (by decide) ?_
          refine lv_icmp_ge (tgt := 67) C.1 C.2.1 dX12_feed_60 (by decide) (fun hc => ?_) (fun hc => ?_)
          · replace h := if_t h hc
            refine lv_iload C.1 C.2.1 dX12_feed_67 (lv_at hl 6 rfl) ?_
            refine lv_bipush (v := (16 : Int32)) C.1 C.2.1 dX12_feed_69 (by decide) ?_
            refine lv_icmp_ge (tgt := 79) C.1 C.2.1 dX12_feed_71 (by decide) (fun hc => ?_) (fun hc => ?_)
            · replace h := if_t h hc
              refine lv_iload C.1 C.2.1 dX12_feed_79 (lv_at hl 5 rfl) ?_
              exact w_X12_feed_81 C (f_X12_feed_28 k) ih x1 x2 x3 x4 x5 x6 x5 S h _ _ _ hR (lv_sub hl [0, 1, 2, 3, 4, 5, 6] rfl)
            · replace h := if_f h hc
              refine lv_iload C.1 C.2.1 dX12_feed_74 (lv_at hl 4 rfl) ?_
              refine lv_goto (tgt := 81) C.1 C.2.1 dX12_feed_76 (by decide) ?_
              exact w_X12_feed_81 C (f_X12_feed_28 k) ih x1 x2 x3 x4 x5 x6 x4 S h _ _ _ hR (lv_sub hl [0, 1, 2, 3, 4, 5, 6] rfl)
          · replace h := if_f h hc
            refine lv_iload_n C.1 C.2.1 dX12_feed_63 rfl (lv_at hl 3 rfl) ?_
            refine lv_goto (tgt := 81) C.1 C.2.1 dX12_feed_64 (by decide) ?_
            exact w_X12_feed_81 C (f_X12_feed_28 k) ih x1 x2 x3 x4 x5 x6 x3 S h _ _ _ hR (lv_sub hl [0, 1, 2, 3, 4, 5, 6] rfl)
        · replace h := if_f h hc
          refine lv_iload_n C.1 C.2.1 dX12_feed_52 rfl (lv_at hl 2 rfl) ?_
          refine lv_goto (tgt := 81) C.1 C.2.1 dX12_feed_53 (by decide) ?_
          exact w_X12_feed_81 C (f_X12_feed_28 k) ih x1 x2 x3 x4 x5 x6 x2 S h _ _ _ hR (lv_sub hl [0, 1, 2, 3, 4, 5, 6] rfl)
      · replace h := if_f h hc
        refine lv_iload_n C.1 C.2.1 dX12_feed_41 rfl (lv_at hl 1 rfl) ?_
        refine lv_goto (tgt := 81) C.1 C.2.1 dX12_feed_42 (by decide) ?_
        exact w_X12_feed_81 C (f_X12_feed_28 k) ih x1 x2 x3 x4 x5 x6 x1 S h _ _ _ hR (lv_sub hl [0, 1, 2, 3, 4, 5, 6] rfl)
def f_X12_feed (x1 : Int32) (x2 : Int32) (x3 : Int32) (x4 : Int32) (x5 : Int32) (S : Hp) : Option (Int32 × Hp) :=
  if ((S.1 0 1) + (20 : Int32)) ≤ (1600 : Int32) then f_X12_feed_28 5000 x1 x2 x3 x4 x5 (0 : Int32) S else ldI S 10 6 (0 : Int32) (fun v1 => stI S 10 6 (0 : Int32) (v1 + (1 : Int32)) (fun S2 => some ((-1 : Int32), S2)))
set_option maxHeartbeats 4000000 in
set_option maxRecDepth 100000 in
theorem c_X12_feed (l : Launch) (E : Ev) (x1 : Int32) (x2 : Int32) (x3 : Int32) (x4 : Int32) (x5 : Int32) (S : Hp) (r : (Int32 × Hp)) (h : f_X12_feed x1 x2 x3 x4 x5 S = some r) : ho_M l yM E yX12_feed cX12_feed 8 (some .int) 0 [.ref (E.2.1 0), .int x1, .int x2, .int x3, .int x4, .int x5] S (some (.int r.1), r.2) := by
  refine ho_in (by decide) (Nat.le_of_ble_eq_true rfl) ?_
  intro p e s m args below meth c C hR ls hl
  have C : ho_I p s m args meth c RX12 cX12_feed 8 (some .int) := C
  have hl : lv_has ls 8 [(0, .ref (E.2.1 0)), (1, .int x1), (2, .int x2), (3, .int x3), (4, .int x4), (5, .int x5)] := hl
  unfold f_X12_feed at h
  refine lv_aload_n C.1 C.2.1 dX12_feed_0 rfl (lv_at hl 0 rfl) ?_
  refine ho_getI C cf12 fM_261 hR aM_0 dX12_feed_1 ?_
  refine lv_bipush (v := (20 : Int32)) C.1 C.2.1 dX12_feed_4 (by decide) ?_
  refine lv_iadd C.1 C.2.1 dX12_feed_6 ?_
  refine lv_sipush (v := (1600 : Int32)) C.1 C.2.1 dX12_feed_7 (by decide) ?_
  refine lv_icmp_le (tgt := 25) C.1 C.2.1 dX12_feed_10 (by decide) (fun hc => ?_) (fun hc => ?_)
  · replace h := if_t h hc
    refine lv_iconst (v := (0 : Int32)) C.1 C.2.1 dX12_feed_25 (by decide) ?_
    refine lv_istore (lv' := [(6, .int (0 : Int32)), (0, .ref (E.2.1 0)), (1, .int x1), (2, .int x2), (3, .int x3), (4, .int x4), (5, .int x5)]) C.1 C.2.1 dX12_feed_26 hl (by decide) rfl (fun ls hl => ?_)
    exact w_X12_feed_28 C 5000 x1 x2 x3 x4 x5 (0 : Int32) S h _ _ _ hR (lv_sub hl [1, 2, 3, 4, 5, 6, 0] rfl)
  · replace h := if_f h hc
    refine lv_aload_n C.1 C.2.1 dX12_feed_13 rfl (lv_at hl 0 rfl) ?_
    refine ho_getR (a' := 10) C cf12 fM_17 hR aM_0 rfl dX12_feed_14 ?_
    refine lv_iconst (v := (0 : Int32)) C.1 C.2.1 dX12_feed_17 (by decide) ?_
    refine lv_dup2_11 C.1 C.2.1 dX12_feed_18 rfl rfl ?_
    obtain ⟨v1, e1, hi1, h⟩ := ldI_ok h
    refine hr_ild C hR aM_10 hi1 e1 dX12_feed_19 ?_
    refine lv_iconst (v := (1 : Int32)) C.1 C.2.1 dX12_feed_20 (by decide) ?_
    refine lv_iadd C.1 C.2.1 dX12_feed_21 ?_
    obtain ⟨S2, e2, hi2, h⟩ := stI_ok h
    refine hr_ist C hR aM_10 hi2 e2 dX12_feed_22 (fun H locs hR => ?_)
    refine lv_iconst (v := (-1 : Int32)) C.1 C.2.1 dX12_feed_23 (by decide) ?_
    exact ho_iret C hR h dX12_feed_24
theorem dX12_end_0 : decode cX12_end 0 = .ok (.iload_n 1, 1) := by decide +kernel
theorem dX12_end_1 : decode cX12_end 1 = .ok (.ifCond .lt 11, 3) := by decide +kernel
theorem dX12_end_4 : decode cX12_end 4 = .ok (.iload_n 1, 1) := by decide +kernel
theorem dX12_end_5 : decode cX12_end 5 = .ok (.aload_n 0, 1) := by decide +kernel
theorem dX12_end_6 : decode cX12_end 6 = .ok (.getfield 261, 3) := by decide +kernel
theorem dX12_end_9 : decode cX12_end 9 = .ok (.if_icmp .le 15, 3) := by decide +kernel
theorem dX12_end_12 : decode cX12_end 12 = .ok (.aload_n 0, 1) := by decide +kernel
theorem dX12_end_13 : decode cX12_end 13 = .ok (.getfield 17, 3) := by decide +kernel
theorem dX12_end_16 : decode cX12_end 16 = .ok (.iconst 0, 1) := by decide +kernel
theorem dX12_end_17 : decode cX12_end 17 = .ok (.dup2, 1) := by decide +kernel
theorem dX12_end_18 : decode cX12_end 18 = .ok (.iaload, 1) := by decide +kernel
theorem dX12_end_19 : decode cX12_end 19 = .ok (.iconst 1, 1) := by decide +kernel
theorem dX12_end_20 : decode cX12_end 20 = .ok (.iadd, 1) := by decide +kernel
theorem dX12_end_21 : decode cX12_end 21 = .ok (.iastore, 1) := by decide +kernel
theorem dX12_end_22 : decode cX12_end 22 = .ok (.iconst 0, 1) := by decide +kernel
theorem dX12_end_23 : decode cX12_end 23 = .ok (.ireturn, 1) := by decide +kernel
theorem dX12_end_24 : decode cX12_end 24 = .ok (.aload_n 0, 1) := by decide +kernel
theorem dX12_end_25 : decode cX12_end 25 = .ok (.iload_n 1, 1) := by decide +kernel
theorem dX12_end_26 : decode cX12_end 26 = .ok (.putfield 261, 3) := by decide +kernel
theorem dX12_end_29 : decode cX12_end 29 = .ok (.iconst 1, 1) := by decide +kernel
theorem dX12_end_30 : decode cX12_end 30 = .ok (.ireturn, 1) := by decide +kernel
def f_X12_end_12 (S : Hp) : Option (Int32 × Hp) :=
  ldI S 10 6 (0 : Int32) (fun v1 => stI S 10 6 (0 : Int32) (v1 + (1 : Int32)) (fun S2 => some ((0 : Int32), S2)))
set_option maxHeartbeats 4000000 in
set_option maxRecDepth 100000 in
theorem w_X12_end_12 {p : Program} {l : Launch} {e : Env} {s : State} {m : MethodId} {args : Array Value} {below : List Frame} {meth : Method} {c : Code} {E : Ev} {S0 : Hp} {r : (Int32 × Hp)} (C : ho_I p s m args meth c RX12 cX12_end 2 (some .boolean)) :
    ∀ (S : Hp), f_X12_end_12 S = some r → ho_G p l e s m args below meth c yM E S0 0 2 (some (.int r.1), r.2) 12 [(0, .ref (E.2.1 0))] [] S := by
  intro S h H locs ls hR hl
  unfold f_X12_end_12 at h
  refine lv_aload_n C.1 C.2.1 dX12_end_12 rfl (lv_at hl 0 rfl) ?_
  refine ho_getR (a' := 10) C cf12 fM_17 hR aM_0 rfl dX12_end_13 ?_
  refine lv_iconst (v := (0 : Int32)) C.1 C.2.1 dX12_end_16 (by decide) ?_
  refine lv_dup2_11 C.1 C.2.1 dX12_end_17 rfl rfl ?_
  obtain ⟨v1, e1, hi1, h⟩ := ldI_ok h
  refine hr_ild C hR aM_10 hi1 e1 dX12_end_18 ?_
  refine lv_iconst (v := (1 : Int32)) C.1 C.2.1 dX12_end_19 (by decide) ?_
  refine lv_iadd C.1 C.2.1 dX12_end_20 ?_
  obtain ⟨S2, e2, hi2, h⟩ := stI_ok h
  refine hr_ist C hR aM_10 hi2 e2 dX12_end_21 (fun H locs hR => ?_)
  refine lv_iconst (v := (0 : Int32)) C.1 C.2.1 dX12_end_22 (by decide) ?_
  exact ho_zret C hR (Or.inl rfl) h dX12_end_23
def f_X12_end (x1 : Int32) (S : Hp) : Option (Int32 × Hp) :=
  if x1 < 0 then f_X12_end_12 S else if x1 ≤ (S.1 0 1) then le1 (ho_sI S 0 1 x1) (fun S1 => some ((1 : Int32), S1)) else f_X12_end_12 S
set_option maxHeartbeats 4000000 in
set_option maxRecDepth 100000 in
theorem c_X12_end (l : Launch) (E : Ev) (x1 : Int32) (S : Hp) (r : (Int32 × Hp)) (h : f_X12_end x1 S = some r) : ho_M l yM E yX12_end cX12_end 2 (some .boolean) 0 [.ref (E.2.1 0), .int x1] S (some (.int r.1), r.2) := by
  refine ho_in (by decide) (Nat.le_of_ble_eq_true rfl) ?_
  intro p e s m args below meth c C hR ls hl
  have C : ho_I p s m args meth c RX12 cX12_end 2 (some .boolean) := C
  have hl : lv_has ls 2 [(0, .ref (E.2.1 0)), (1, .int x1)] := hl
  unfold f_X12_end at h
  refine lv_iload_n C.1 C.2.1 dX12_end_0 rfl (lv_at hl 1 rfl) ?_
  refine lv_if_lt (tgt := 12) C.1 C.2.1 dX12_end_1 (by decide) (fun hc => ?_) (fun hc => ?_)
  · replace h := if_t h hc
    exact w_X12_end_12 C S h _ _ _ hR (lv_sub hl [0] rfl)
  · replace h := if_f h hc
    refine lv_iload_n C.1 C.2.1 dX12_end_4 rfl (lv_at hl 1 rfl) ?_
    refine lv_aload_n C.1 C.2.1 dX12_end_5 rfl (lv_at hl 0 rfl) ?_
    refine ho_getI C cf12 fM_261 hR aM_0 dX12_end_6 ?_
    refine lv_icmp_le (tgt := 24) C.1 C.2.1 dX12_end_9 (by decide) (fun hc => ?_) (fun hc => ?_)
    · replace h := if_t h hc
      refine lv_aload_n C.1 C.2.1 dX12_end_24 rfl (lv_at hl 0 rfl) ?_
      refine lv_iload_n C.1 C.2.1 dX12_end_25 rfl (lv_at hl 1 rfl) ?_
      obtain ⟨S1, e1, h⟩ := le1_ok h
      refine hr_putI C cf12 fM_261 hR aM_0 e1 dX12_end_26 (fun H locs hR => ?_)
      refine lv_iconst (v := (1 : Int32)) C.1 C.2.1 dX12_end_29 (by decide) ?_
      exact ho_zret C hR (Or.inr rfl) h dX12_end_30
    · replace h := if_f h hc
      exact w_X12_end_12 C S h _ _ _ hR (lv_sub hl [0] rfl)
theorem dX12_fail_0 : decode cX12_fail 0 = .ok (.aload_n 0, 1) := by decide +kernel
theorem dX12_fail_1 : decode cX12_fail 1 = .ok (.getfield 264, 3) := by decide +kernel
theorem dX12_fail_4 : decode cX12_fail 4 = .ok (.ifCond .eq 4, 3) := by decide +kernel
theorem dX12_fail_7 : decode cX12_fail 7 = .ok (.return_, 1) := by decide +kernel
theorem dX12_fail_8 : decode cX12_fail 8 = .ok (.aload_n 0, 1) := by decide +kernel
theorem dX12_fail_9 : decode cX12_fail 9 = .ok (.iload_n 1, 1) := by decide +kernel
theorem dX12_fail_10 : decode cX12_fail 10 = .ok (.putfield 264, 3) := by decide +kernel
theorem dX12_fail_13 : decode cX12_fail 13 = .ok (.aload_n 0, 1) := by decide +kernel
theorem dX12_fail_14 : decode cX12_fail 14 = .ok (.iload_n 2, 1) := by decide +kernel
theorem dX12_fail_15 : decode cX12_fail 15 = .ok (.putfield 267, 3) := by decide +kernel
theorem dX12_fail_18 : decode cX12_fail 18 = .ok (.return_, 1) := by decide +kernel
def f_X12_fail (x1 : Int32) (x2 : Int32) (S : Hp) : Option Hp :=
  if (S.1 0 5) = 0 then le1 (ho_sI S 0 5 x1) (fun S1 => le1 (ho_sI S1 0 6 x2) (fun S2 => some S2)) else some S
set_option maxHeartbeats 4000000 in
set_option maxRecDepth 100000 in
theorem c_X12_fail (l : Launch) (E : Ev) (x1 : Int32) (x2 : Int32) (S : Hp) (r : Hp) (h : f_X12_fail x1 x2 S = some r) : ho_M l yM E yX12_fail cX12_fail 3 none 0 [.ref (E.2.1 0), .int x1, .int x2] S (none, r) := by
  refine ho_in (by decide) (Nat.le_of_ble_eq_true rfl) ?_
  intro p e s m args below meth c C hR ls hl
  have C : ho_I p s m args meth c RX12 cX12_fail 3 none := C
  have hl : lv_has ls 3 [(0, .ref (E.2.1 0)), (1, .int x1), (2, .int x2)] := hl
  unfold f_X12_fail at h
  refine lv_aload_n C.1 C.2.1 dX12_fail_0 rfl (lv_at hl 0 rfl) ?_
  refine ho_getI C cf12 fM_264 hR aM_0 dX12_fail_1 ?_
  refine lv_if_eq (tgt := 8) C.1 C.2.1 dX12_fail_4 (by decide) (fun hc => ?_) (fun hc => ?_)
  · replace h := if_t h hc
    refine lv_aload_n C.1 C.2.1 dX12_fail_8 rfl (lv_at hl 0 rfl) ?_
    refine lv_iload_n C.1 C.2.1 dX12_fail_9 rfl (lv_at hl 1 rfl) ?_
    obtain ⟨S1, e1, h⟩ := le1_ok h
    refine hr_putI C cf12 fM_264 hR aM_0 e1 dX12_fail_10 (fun H locs hR => ?_)
    refine lv_aload_n C.1 C.2.1 dX12_fail_13 rfl (lv_at hl 0 rfl) ?_
    refine lv_iload_n C.1 C.2.1 dX12_fail_14 rfl (lv_at hl 2 rfl) ?_
    obtain ⟨S2, e2, h⟩ := le1_ok h
    refine hr_putI C cf12 fM_267 hR aM_0 e2 dX12_fail_15 (fun H locs hR => ?_)
    exact ho_vret C hR h dX12_fail_18
  · replace h := if_f h hc
    exact ho_vret C hR h dX12_fail_7
theorem dX12_isLetter_0 : decode cX12_isLetter 0 = .ok (.iload_n 0, 1) := by decide +kernel
theorem dX12_isLetter_1 : decode cX12_isLetter 1 = .ok (.bipush 97, 2) := by decide +kernel
theorem dX12_isLetter_3 : decode cX12_isLetter 3 = .ok (.if_icmp .lt 13, 3) := by decide +kernel
theorem dX12_isLetter_6 : decode cX12_isLetter 6 = .ok (.iload_n 0, 1) := by decide +kernel
theorem dX12_isLetter_7 : decode cX12_isLetter 7 = .ok (.bipush 122, 2) := by decide +kernel
theorem dX12_isLetter_9 : decode cX12_isLetter 9 = .ok (.if_icmp .gt 7, 3) := by decide +kernel
theorem dX12_isLetter_12 : decode cX12_isLetter 12 = .ok (.iconst 1, 1) := by decide +kernel
theorem dX12_isLetter_13 : decode cX12_isLetter 13 = .ok (.goto 4, 3) := by decide +kernel
theorem dX12_isLetter_16 : decode cX12_isLetter 16 = .ok (.iconst 0, 1) := by decide +kernel
theorem dX12_isLetter_17 : decode cX12_isLetter 17 = .ok (.ireturn, 1) := by decide +kernel
def f_X12_isLetter (x0 : Int32) (S : Hp) : Option (Int32 × Hp) :=
  if x0 < (97 : Int32) then some ((0 : Int32), S) else if (122 : Int32) < x0 then some ((0 : Int32), S) else some ((1 : Int32), S)
set_option maxHeartbeats 4000000 in
set_option maxRecDepth 100000 in
theorem c_X12_isLetter (l : Launch) (E : Ev) (x0 : Int32) (S : Hp) (r : (Int32 × Hp)) (h : f_X12_isLetter x0 S = some r) : ho_M l yM E yX12_isLetter cX12_isLetter 1 (some .boolean) 0 [.int x0] S (some (.int r.1), r.2) := by
  refine ho_in (by decide) (Nat.le_of_ble_eq_true rfl) ?_
  intro p e s m args below meth c C hR ls hl
  have C : ho_I p s m args meth c RX12 cX12_isLetter 1 (some .boolean) := C
  have hl : lv_has ls 1 [(0, .int x0)] := hl
  unfold f_X12_isLetter at h
  refine lv_iload_n C.1 C.2.1 dX12_isLetter_0 rfl (lv_at hl 0 rfl) ?_
  refine lv_bipush (v := (97 : Int32)) C.1 C.2.1 dX12_isLetter_1 (by decide) ?_
  refine lv_icmp_lt (tgt := 16) C.1 C.2.1 dX12_isLetter_3 (by decide) (fun hc => ?_) (fun hc => ?_)
  · replace h := if_t h hc
    refine lv_iconst (v := (0 : Int32)) C.1 C.2.1 dX12_isLetter_16 (by decide) ?_
    exact ho_zret C hR (Or.inl rfl) h dX12_isLetter_17
  · replace h := if_f h hc
    refine lv_iload_n C.1 C.2.1 dX12_isLetter_6 rfl (lv_at hl 0 rfl) ?_
    refine lv_bipush (v := (122 : Int32)) C.1 C.2.1 dX12_isLetter_7 (by decide) ?_
    refine lv_icmp_gt (tgt := 16) C.1 C.2.1 dX12_isLetter_9 (by decide) (fun hc => ?_) (fun hc => ?_)
    · replace h := if_t h hc
      refine lv_iconst (v := (0 : Int32)) C.1 C.2.1 dX12_isLetter_16 (by decide) ?_
      exact ho_zret C hR (Or.inl rfl) h dX12_isLetter_17
    · replace h := if_f h hc
      refine lv_iconst (v := (1 : Int32)) C.1 C.2.1 dX12_isLetter_12 (by decide) ?_
      refine lv_goto (tgt := 17) C.1 C.2.1 dX12_isLetter_13 (by decide) ?_
      exact ho_zret C hR (Or.inr rfl) h dX12_isLetter_17
theorem dX12_isDigit_0 : decode cX12_isDigit 0 = .ok (.iload_n 0, 1) := by decide +kernel
theorem dX12_isDigit_1 : decode cX12_isDigit 1 = .ok (.bipush 48, 2) := by decide +kernel
theorem dX12_isDigit_3 : decode cX12_isDigit 3 = .ok (.if_icmp .lt 13, 3) := by decide +kernel
theorem dX12_isDigit_6 : decode cX12_isDigit 6 = .ok (.iload_n 0, 1) := by decide +kernel
theorem dX12_isDigit_7 : decode cX12_isDigit 7 = .ok (.bipush 57, 2) := by decide +kernel
theorem dX12_isDigit_9 : decode cX12_isDigit 9 = .ok (.if_icmp .gt 7, 3) := by decide +kernel
theorem dX12_isDigit_12 : decode cX12_isDigit 12 = .ok (.iconst 1, 1) := by decide +kernel
theorem dX12_isDigit_13 : decode cX12_isDigit 13 = .ok (.goto 4, 3) := by decide +kernel
theorem dX12_isDigit_16 : decode cX12_isDigit 16 = .ok (.iconst 0, 1) := by decide +kernel
theorem dX12_isDigit_17 : decode cX12_isDigit 17 = .ok (.ireturn, 1) := by decide +kernel
def f_X12_isDigit (x0 : Int32) (S : Hp) : Option (Int32 × Hp) :=
  if x0 < (48 : Int32) then some ((0 : Int32), S) else if (57 : Int32) < x0 then some ((0 : Int32), S) else some ((1 : Int32), S)
set_option maxHeartbeats 4000000 in
set_option maxRecDepth 100000 in
theorem c_X12_isDigit (l : Launch) (E : Ev) (x0 : Int32) (S : Hp) (r : (Int32 × Hp)) (h : f_X12_isDigit x0 S = some r) : ho_M l yM E yX12_isDigit cX12_isDigit 1 (some .boolean) 0 [.int x0] S (some (.int r.1), r.2) := by
  refine ho_in (by decide) (Nat.le_of_ble_eq_true rfl) ?_
  intro p e s m args below meth c C hR ls hl
  have C : ho_I p s m args meth c RX12 cX12_isDigit 1 (some .boolean) := C
  have hl : lv_has ls 1 [(0, .int x0)] := hl
  unfold f_X12_isDigit at h
  refine lv_iload_n C.1 C.2.1 dX12_isDigit_0 rfl (lv_at hl 0 rfl) ?_
  refine lv_bipush (v := (48 : Int32)) C.1 C.2.1 dX12_isDigit_1 (by decide) ?_
  refine lv_icmp_lt (tgt := 16) C.1 C.2.1 dX12_isDigit_3 (by decide) (fun hc => ?_) (fun hc => ?_)
  · replace h := if_t h hc
    refine lv_iconst (v := (0 : Int32)) C.1 C.2.1 dX12_isDigit_16 (by decide) ?_
    exact ho_zret C hR (Or.inl rfl) h dX12_isDigit_17
  · replace h := if_f h hc
    refine lv_iload_n C.1 C.2.1 dX12_isDigit_6 rfl (lv_at hl 0 rfl) ?_
    refine lv_bipush (v := (57 : Int32)) C.1 C.2.1 dX12_isDigit_7 (by decide) ?_
    refine lv_icmp_gt (tgt := 16) C.1 C.2.1 dX12_isDigit_9 (by decide) (fun hc => ?_) (fun hc => ?_)
    · replace h := if_t h hc
      refine lv_iconst (v := (0 : Int32)) C.1 C.2.1 dX12_isDigit_16 (by decide) ?_
      exact ho_zret C hR (Or.inl rfl) h dX12_isDigit_17
    · replace h := if_f h hc
      refine lv_iconst (v := (1 : Int32)) C.1 C.2.1 dX12_isDigit_12 (by decide) ?_
      refine lv_goto (tgt := 17) C.1 C.2.1 dX12_isDigit_13 (by decide) ?_
      exact ho_zret C hR (Or.inr rfl) h dX12_isDigit_17
theorem dX12_look0_0 : decode cX12_look0 0 = .ok (.aload_n 0, 1) := by decide +kernel
theorem dX12_look0_1 : decode cX12_look0 1 = .ok (.getfield 270, 3) := by decide +kernel
theorem dX12_look0_4 : decode cX12_look0 4 = .ok (.aload_n 0, 1) := by decide +kernel
theorem dX12_look0_5 : decode cX12_look0 5 = .ok (.getfield 273, 3) := by decide +kernel
theorem dX12_look0_8 : decode cX12_look0 8 = .ok (.if_icmp .ge 44, 3) := by decide +kernel
theorem dX12_look0_11 : decode cX12_look0 11 = .ok (.aload_n 0, 1) := by decide +kernel
theorem dX12_look0_12 : decode cX12_look0 12 = .ok (.getfield 7, 3) := by decide +kernel
theorem dX12_look0_15 : decode cX12_look0 15 = .ok (.aload_n 0, 1) := by decide +kernel
theorem dX12_look0_16 : decode cX12_look0 16 = .ok (.getfield 270, 3) := by decide +kernel
theorem dX12_look0_19 : decode cX12_look0 19 = .ok (.iaload, 1) := by decide +kernel
theorem dX12_look0_20 : decode cX12_look0 20 = .ok (.bipush 10, 2) := by decide +kernel
theorem dX12_look0_22 : decode cX12_look0 22 = .ok (.if_icmp .eq 17, 3) := by decide +kernel
theorem dX12_look0_25 : decode cX12_look0 25 = .ok (.aload_n 0, 1) := by decide +kernel
theorem dX12_look0_26 : decode cX12_look0 26 = .ok (.getfield 7, 3) := by decide +kernel
theorem dX12_look0_29 : decode cX12_look0 29 = .ok (.aload_n 0, 1) := by decide +kernel
theorem dX12_look0_30 : decode cX12_look0 30 = .ok (.getfield 270, 3) := by decide +kernel
theorem dX12_look0_33 : decode cX12_look0 33 = .ok (.iaload, 1) := by decide +kernel
theorem dX12_look0_34 : decode cX12_look0 34 = .ok (.bipush 32, 2) := by decide +kernel
theorem dX12_look0_36 : decode cX12_look0 36 = .ok (.if_icmp .ne 16, 3) := by decide +kernel
theorem dX12_look0_39 : decode cX12_look0 39 = .ok (.aload_n 0, 1) := by decide +kernel
theorem dX12_look0_40 : decode cX12_look0 40 = .ok (.dup, 1) := by decide +kernel
theorem dX12_look0_41 : decode cX12_look0 41 = .ok (.getfield 270, 3) := by decide +kernel
theorem dX12_look0_44 : decode cX12_look0 44 = .ok (.iconst 1, 1) := by decide +kernel
theorem dX12_look0_45 : decode cX12_look0 45 = .ok (.iadd, 1) := by decide +kernel
theorem dX12_look0_46 : decode cX12_look0 46 = .ok (.putfield 270, 3) := by decide +kernel
theorem dX12_look0_49 : decode cX12_look0 49 = .ok (.goto (-49), 3) := by decide +kernel
theorem dX12_look0_52 : decode cX12_look0 52 = .ok (.aload_n 0, 1) := by decide +kernel
theorem dX12_look0_53 : decode cX12_look0 53 = .ok (.getfield 270, 3) := by decide +kernel
theorem dX12_look0_56 : decode cX12_look0 56 = .ok (.aload_n 0, 1) := by decide +kernel
theorem dX12_look0_57 : decode cX12_look0 57 = .ok (.getfield 273, 3) := by decide +kernel
theorem dX12_look0_60 : decode cX12_look0 60 = .ok (.if_icmp .ge 15, 3) := by decide +kernel
theorem dX12_look0_63 : decode cX12_look0 63 = .ok (.aload_n 0, 1) := by decide +kernel
theorem dX12_look0_64 : decode cX12_look0 64 = .ok (.getfield 7, 3) := by decide +kernel
theorem dX12_look0_67 : decode cX12_look0 67 = .ok (.aload_n 0, 1) := by decide +kernel
theorem dX12_look0_68 : decode cX12_look0 68 = .ok (.getfield 270, 3) := by decide +kernel
theorem dX12_look0_71 : decode cX12_look0 71 = .ok (.iaload, 1) := by decide +kernel
theorem dX12_look0_72 : decode cX12_look0 72 = .ok (.goto 4, 3) := by decide +kernel
theorem dX12_look0_75 : decode cX12_look0 75 = .ok (.iconst (-1), 1) := by decide +kernel
theorem dX12_look0_76 : decode cX12_look0 76 = .ok (.ireturn, 1) := by decide +kernel
def f_X12_look0_52 (S : Hp) : Option (Int32 × Hp) :=
  if (S.1 0 3) ≤ (S.1 0 2) then some ((-1 : Int32), S) else ldI S 1 1600 (S.1 0 2) (fun v1 => some (v1, S))
set_option maxHeartbeats 4000000 in
set_option maxRecDepth 100000 in
theorem w_X12_look0_52 {p : Program} {l : Launch} {e : Env} {s : State} {m : MethodId} {args : Array Value} {below : List Frame} {meth : Method} {c : Code} {E : Ev} {S0 : Hp} {r : (Int32 × Hp)} (C : ho_I p s m args meth c RX12 cX12_look0 1 (some .int)) :
    ∀ (S : Hp), f_X12_look0_52 S = some r → ho_G p l e s m args below meth c yM E S0 0 1 (some (.int r.1), r.2) 52 [(0, .ref (E.2.1 0))] [] S := by
  intro S h H locs ls hR hl
  unfold f_X12_look0_52 at h
  refine lv_aload_n C.1 C.2.1 dX12_look0_52 rfl (lv_at hl 0 rfl) ?_
  refine ho_getI C cf12 fM_270 hR aM_0 dX12_look0_53 ?_
  refine lv_aload_n C.1 C.2.1 dX12_look0_56 rfl (lv_at hl 0 rfl) ?_
  refine ho_getI C cf12 fM_273 hR aM_0 dX12_look0_57 ?_
  refine lv_icmp_ge (tgt := 75) C.1 C.2.1 dX12_look0_60 (by decide) (fun hc => ?_) (fun hc => ?_)
  · replace h := if_t h hc
    refine lv_iconst (v := (-1 : Int32)) C.1 C.2.1 dX12_look0_75 (by decide) ?_
    exact ho_iret C hR h dX12_look0_76
  · replace h := if_f h hc
    refine lv_aload_n C.1 C.2.1 dX12_look0_63 rfl (lv_at hl 0 rfl) ?_
    refine ho_getR (a' := 1) C cf12 fM_7 hR aM_0 rfl dX12_look0_64 ?_
    refine lv_aload_n C.1 C.2.1 dX12_look0_67 rfl (lv_at hl 0 rfl) ?_
    refine ho_getI C cf12 fM_270 hR aM_0 dX12_look0_68 ?_
    obtain ⟨v1, e1, hi1, h⟩ := ldI_ok h
    refine hr_ild C hR aM_1 hi1 e1 dX12_look0_71 ?_
    refine lv_goto (tgt := 76) C.1 C.2.1 dX12_look0_72 (by decide) ?_
    exact ho_iret C hR h dX12_look0_76
def f_X12_look0_39 (K0 : Hp → Option (Int32 × Hp)) (S : Hp) : Option (Int32 × Hp) :=
  le1 (ho_sI S 0 2 ((S.1 0 2) + (1 : Int32))) (fun S1 => K0 S1)
set_option maxHeartbeats 4000000 in
set_option maxRecDepth 100000 in
theorem w_X12_look0_39 {p : Program} {l : Launch} {e : Env} {s : State} {m : MethodId} {args : Array Value} {below : List Frame} {meth : Method} {c : Code} {E : Ev} {S0 : Hp} {r : (Int32 × Hp)} (C : ho_I p s m args meth c RX12 cX12_look0 1 (some .int)) (K0 : Hp → Option (Int32 × Hp)) (hK0 : ∀ (S : Hp), K0 S = some r → ho_G p l e s m args below meth c yM E S0 0 1 (some (.int r.1), r.2) 0 [(0, .ref (E.2.1 0))] [] S) :
    ∀ (S : Hp), f_X12_look0_39 K0 S = some r → ho_G p l e s m args below meth c yM E S0 0 1 (some (.int r.1), r.2) 39 [(0, .ref (E.2.1 0))] [] S := by
  intro S h H locs ls hR hl
  unfold f_X12_look0_39 at h
  refine lv_aload_n C.1 C.2.1 dX12_look0_39 rfl (lv_at hl 0 rfl) ?_
  refine lv_dup C.1 C.2.1 dX12_look0_40 rfl ?_
  refine ho_getI C cf12 fM_270 hR aM_0 dX12_look0_41 ?_
  refine lv_iconst (v := (1 : Int32)) C.1 C.2.1 dX12_look0_44 (by decide) ?_
  refine lv_iadd C.1 C.2.1 dX12_look0_45 ?_
  obtain ⟨S1, e1, h⟩ := le1_ok h
  refine hr_putI C cf12 fM_270 hR aM_0 e1 dX12_look0_46 (fun H locs hR => ?_)
  refine lv_goto (tgt := 0) C.1 C.2.1 dX12_look0_49 (by decide) ?_
  exact hK0 S1 h _ _ _ hR (lv_sub hl [0] rfl)
def f_X12_look0_0 : Nat → Hp → Option (Int32 × Hp)
  | 0, _ => none
  | k + 1, S => if (S.1 0 3) ≤ (S.1 0 2) then f_X12_look0_52 S else ldI S 1 1600 (S.1 0 2) (fun v1 => if v1 = (10 : Int32) then f_X12_look0_39 (f_X12_look0_0 k) S else ldI S 1 1600 (S.1 0 2) (fun v2 => if v2 = (32 : Int32) then f_X12_look0_39 (f_X12_look0_0 k) S else f_X12_look0_52 S))
set_option maxHeartbeats 4000000 in
set_option maxRecDepth 100000 in
theorem w_X12_look0_0 {p : Program} {l : Launch} {e : Env} {s : State} {m : MethodId} {args : Array Value} {below : List Frame} {meth : Method} {c : Code} {E : Ev} {S0 : Hp} {r : (Int32 × Hp)} (C : ho_I p s m args meth c RX12 cX12_look0 1 (some .int)) :
    ∀ (k : Nat) (S : Hp), f_X12_look0_0 k S = some r → ho_G p l e s m args below meth c yM E S0 0 1 (some (.int r.1), r.2) 0 [(0, .ref (E.2.1 0))] [] S := by
  intro k
  induction k with
  | zero =>
    intro S h
    exact absurd (show (none : Option (Int32 × Hp)) = some r from h) (by simp)
  | succ k ih =>
    intro S h H locs ls hR hl
    rw [f_X12_look0_0] at h
    refine lv_aload_n C.1 C.2.1 dX12_look0_0 rfl (lv_at hl 0 rfl) ?_
    refine ho_getI C cf12 fM_270 hR aM_0 dX12_look0_1 ?_
    refine lv_aload_n C.1 C.2.1 dX12_look0_4 rfl (lv_at hl 0 rfl) ?_
    refine ho_getI C cf12 fM_273 hR aM_0 dX12_look0_5 ?_
    refine lv_icmp_ge (tgt := 52) C.1 C.2.1 dX12_look0_8 (by decide) (fun hc => ?_) (fun hc => ?_)
    · replace h := if_t h hc
      exact w_X12_look0_52 C S h _ _ _ hR (lv_sub hl [0] rfl)
    · replace h := if_f h hc
      refine lv_aload_n C.1 C.2.1 dX12_look0_11 rfl (lv_at hl 0 rfl) ?_
      refine ho_getR (a' := 1) C cf12 fM_7 hR aM_0 rfl dX12_look0_12 ?_
      refine lv_aload_n C.1 C.2.1 dX12_look0_15 rfl (lv_at hl 0 rfl) ?_
      refine ho_getI C cf12 fM_270 hR aM_0 dX12_look0_16 ?_
      obtain ⟨v1, e1, hi1, h⟩ := ldI_ok h
      refine hr_ild C hR aM_1 hi1 e1 dX12_look0_19 ?_
      refine lv_bipush (v := (10 : Int32)) C.1 C.2.1 dX12_look0_20 (by decide) ?_
      refine lv_icmp_eq (tgt := 39) C.1 C.2.1 dX12_look0_22 (by decide) (fun hc => ?_) (fun hc => ?_)
      · replace h := if_t h hc
        exact w_X12_look0_39 C (f_X12_look0_0 k) ih S h _ _ _ hR (lv_sub hl [0] rfl)
      · replace h := if_f h hc
        refine lv_aload_n C.1 C.2.1 dX12_look0_25 rfl (lv_at hl 0 rfl) ?_
        refine ho_getR (a' := 1) C cf12 fM_7 hR aM_0 rfl dX12_look0_26 ?_
        refine lv_aload_n C.1 C.2.1 dX12_look0_29 rfl (lv_at hl 0 rfl) ?_
        refine ho_getI C cf12 fM_270 hR aM_0 dX12_look0_30 ?_
        obtain ⟨v2, e2, hi2, h⟩ := ldI_ok h
        refine hr_ild C hR aM_1 hi2 e2 dX12_look0_33 ?_
        refine lv_bipush (v := (32 : Int32)) C.1 C.2.1 dX12_look0_34 (by decide) ?_
        refine lv_icmp_ne (tgt := 52) C.1 C.2.1 dX12_look0_36 (by decide) (fun hc => ?_) (fun hc => ?_)
        · replace h := if_f h hc
          exact w_X12_look0_52 C S h _ _ _ hR (lv_sub hl [0] rfl)
        · replace h := if_t h hc
          exact w_X12_look0_39 C (f_X12_look0_0 k) ih S h _ _ _ hR (lv_sub hl [0] rfl)
def f_X12_look0 (S : Hp) : Option (Int32 × Hp) :=
  f_X12_look0_0 5000 S
set_option maxHeartbeats 4000000 in
set_option maxRecDepth 100000 in
theorem c_X12_look0 (l : Launch) (E : Ev) (S : Hp) (r : (Int32 × Hp)) (h : f_X12_look0 S = some r) : ho_M l yM E yX12_look0 cX12_look0 1 (some .int) 0 [.ref (E.2.1 0)] S (some (.int r.1), r.2) := by
  refine ho_in (by decide) (Nat.le_of_ble_eq_true rfl) ?_
  intro p e s m args below meth c C hR ls hl
  have C : ho_I p s m args meth c RX12 cX12_look0 1 (some .int) := C
  have hl : lv_has ls 1 [(0, .ref (E.2.1 0))] := hl
  unfold f_X12_look0 at h
  exact w_X12_look0_0 C 5000 S h _ _ _ hR (lv_sub hl [0] rfl)
theorem dX12_isHere_0 : decode cX12_isHere 0 = .ok (.aload_n 0, 1) := by decide +kernel
theorem dX12_isHere_1 : decode cX12_isHere 1 = .ok (.getfield 264, 3) := by decide +kernel
theorem dX12_isHere_4 : decode cX12_isHere 4 = .ok (.ifCond .ne 24, 3) := by decide +kernel
theorem dX12_isHere_7 : decode cX12_isHere 7 = .ok (.aload_n 0, 1) := by decide +kernel
theorem dX12_isHere_8 : decode cX12_isHere 8 = .ok (.invokevirtual 276, 3) := by decide +kernel
theorem dX12_isHere_11 : decode cX12_isHere 11 = .ok (.invokestatic 280, 3) := by decide +kernel
theorem dX12_isHere_14 : decode cX12_isHere 14 = .ok (.ifCond .eq 14, 3) := by decide +kernel
theorem dX12_isHere_17 : decode cX12_isHere 17 = .ok (.aload_n 0, 1) := by decide +kernel
theorem dX12_isHere_18 : decode cX12_isHere 18 = .ok (.getfield 270, 3) := by decide +kernel
theorem dX12_isHere_21 : decode cX12_isHere 21 = .ok (.aload_n 0, 1) := by decide +kernel
theorem dX12_isHere_22 : decode cX12_isHere 22 = .ok (.getfield 284, 3) := by decide +kernel
theorem dX12_isHere_25 : decode cX12_isHere 25 = .ok (.if_icmp .ne 5, 3) := by decide +kernel
theorem dX12_isHere_28 : decode cX12_isHere 28 = .ok (.iconst 0, 1) := by decide +kernel
theorem dX12_isHere_29 : decode cX12_isHere 29 = .ok (.ireturn, 1) := by decide +kernel
theorem dX12_isHere_30 : decode cX12_isHere 30 = .ok (.aload_n 0, 1) := by decide +kernel
theorem dX12_isHere_31 : decode cX12_isHere 31 = .ok (.getfield 270, 3) := by decide +kernel
theorem dX12_isHere_34 : decode cX12_isHere 34 = .ok (.istore_n 2, 1) := by decide +kernel
theorem dX12_isHere_35 : decode cX12_isHere 35 = .ok (.iload_n 2, 1) := by decide +kernel
theorem dX12_isHere_36 : decode cX12_isHere 36 = .ok (.aload_n 0, 1) := by decide +kernel
theorem dX12_isHere_37 : decode cX12_isHere 37 = .ok (.getfield 273, 3) := by decide +kernel
theorem dX12_isHere_40 : decode cX12_isHere 40 = .ok (.if_icmp .ge 21, 3) := by decide +kernel
theorem dX12_isHere_43 : decode cX12_isHere 43 = .ok (.aload_n 0, 1) := by decide +kernel
theorem dX12_isHere_44 : decode cX12_isHere 44 = .ok (.getfield 7, 3) := by decide +kernel
theorem dX12_isHere_47 : decode cX12_isHere 47 = .ok (.iload_n 2, 1) := by decide +kernel
theorem dX12_isHere_48 : decode cX12_isHere 48 = .ok (.iaload, 1) := by decide +kernel
theorem dX12_isHere_49 : decode cX12_isHere 49 = .ok (.invokestatic 280, 3) := by decide +kernel
theorem dX12_isHere_52 : decode cX12_isHere 52 = .ok (.ifCond .eq 9, 3) := by decide +kernel
theorem dX12_isHere_55 : decode cX12_isHere 55 = .ok (.iinc 2 1, 3) := by decide +kernel
theorem dX12_isHere_58 : decode cX12_isHere 58 = .ok (.goto (-23), 3) := by decide +kernel
theorem dX12_isHere_61 : decode cX12_isHere 61 = .ok (.iload_n 2, 1) := by decide +kernel
theorem dX12_isHere_62 : decode cX12_isHere 62 = .ok (.aload_n 0, 1) := by decide +kernel
theorem dX12_isHere_63 : decode cX12_isHere 63 = .ok (.getfield 270, 3) := by decide +kernel
theorem dX12_isHere_66 : decode cX12_isHere 66 = .ok (.isub, 1) := by decide +kernel
theorem dX12_isHere_67 : decode cX12_isHere 67 = .ok (.aload_n 1, 1) := by decide +kernel
theorem dX12_isHere_68 : decode cX12_isHere 68 = .ok (.arraylength, 1) := by decide +kernel
theorem dX12_isHere_69 : decode cX12_isHere 69 = .ok (.if_icmp .eq 5, 3) := by decide +kernel
theorem dX12_isHere_72 : decode cX12_isHere 72 = .ok (.iconst 0, 1) := by decide +kernel
theorem dX12_isHere_73 : decode cX12_isHere 73 = .ok (.ireturn, 1) := by decide +kernel
theorem dX12_isHere_74 : decode cX12_isHere 74 = .ok (.iconst 0, 1) := by decide +kernel
theorem dX12_isHere_75 : decode cX12_isHere 75 = .ok (.istore_n 3, 1) := by decide +kernel
theorem dX12_isHere_76 : decode cX12_isHere 76 = .ok (.iload_n 3, 1) := by decide +kernel
theorem dX12_isHere_77 : decode cX12_isHere 77 = .ok (.aload_n 1, 1) := by decide +kernel
theorem dX12_isHere_78 : decode cX12_isHere 78 = .ok (.arraylength, 1) := by decide +kernel
theorem dX12_isHere_79 : decode cX12_isHere 79 = .ok (.if_icmp .ge 28, 3) := by decide +kernel
theorem dX12_isHere_82 : decode cX12_isHere 82 = .ok (.aload_n 0, 1) := by decide +kernel
theorem dX12_isHere_83 : decode cX12_isHere 83 = .ok (.getfield 7, 3) := by decide +kernel
theorem dX12_isHere_86 : decode cX12_isHere 86 = .ok (.aload_n 0, 1) := by decide +kernel
theorem dX12_isHere_87 : decode cX12_isHere 87 = .ok (.getfield 270, 3) := by decide +kernel
theorem dX12_isHere_90 : decode cX12_isHere 90 = .ok (.iload_n 3, 1) := by decide +kernel
theorem dX12_isHere_91 : decode cX12_isHere 91 = .ok (.iadd, 1) := by decide +kernel
theorem dX12_isHere_92 : decode cX12_isHere 92 = .ok (.iaload, 1) := by decide +kernel
theorem dX12_isHere_93 : decode cX12_isHere 93 = .ok (.aload_n 1, 1) := by decide +kernel
theorem dX12_isHere_94 : decode cX12_isHere 94 = .ok (.iload_n 3, 1) := by decide +kernel
theorem dX12_isHere_95 : decode cX12_isHere 95 = .ok (.caload, 1) := by decide +kernel
theorem dX12_isHere_96 : decode cX12_isHere 96 = .ok (.if_icmp .eq 5, 3) := by decide +kernel
theorem dX12_isHere_99 : decode cX12_isHere 99 = .ok (.iconst 0, 1) := by decide +kernel
theorem dX12_isHere_100 : decode cX12_isHere 100 = .ok (.ireturn, 1) := by decide +kernel
theorem dX12_isHere_101 : decode cX12_isHere 101 = .ok (.iinc 3 1, 3) := by decide +kernel
theorem dX12_isHere_104 : decode cX12_isHere 104 = .ok (.goto (-28), 3) := by decide +kernel
theorem dX12_isHere_107 : decode cX12_isHere 107 = .ok (.iconst 1, 1) := by decide +kernel
theorem dX12_isHere_108 : decode cX12_isHere 108 = .ok (.ireturn, 1) := by decide +kernel
def f_X12_isHere_76 (w1 n1 : Nat) : Nat → Int32 → Hp → Option (Int32 × Hp)
  | 0, _, _ => none
  | k + 1, x3, S => if (Int32.ofNat n1) ≤ x3 then some ((1 : Int32), S) else ldI S 1 1600 ((S.1 0 2) + x3) (fun v1 => ldI S w1 n1 x3 (fun v2 => if v1 = v2 then le1 (x3 + (1 : Int32)) (fun v3 => f_X12_isHere_76 w1 n1 k v3 S) else some ((0 : Int32), S)))
set_option maxHeartbeats 4000000 in
set_option maxRecDepth 100000 in
theorem w_X12_isHere_76 {p : Program} {l : Launch} {e : Env} {s : State} {m : MethodId} {args : Array Value} {below : List Frame} {meth : Method} {c : Code} {E : Ev} {S0 : Hp} {r : (Int32 × Hp)} (C : ho_I p s m args meth c RX12 cX12_isHere 4 (some .boolean)) (w1 n1 : Nat) (hw1 : w1 ∈ yM.1 ∧ yM.2.1 w1 = (3, n1)) :
    ∀ (k : Nat) (x3 : Int32) (S : Hp), f_X12_isHere_76 w1 n1 k x3 S = some r → ho_G p l e s m args below meth c yM E S0 1 4 (some (.int r.1), r.2) 76 [(0, .ref (E.2.1 0)), (1, .ref (E.2.1 w1)), (3, .int x3)] [] S := by
  intro k
  induction k with
  | zero =>
    intro x3 S h
    exact absurd (show (none : Option (Int32 × Hp)) = some r from h) (by simp)
  | succ k ih =>
    intro x3 S h H locs ls hR hl
    rw [f_X12_isHere_76] at h
    refine lv_iload_n C.1 C.2.1 dX12_isHere_76 rfl (lv_at hl 2 rfl) ?_
    refine lv_aload_n C.1 C.2.1 dX12_isHere_77 rfl (lv_at hl 1 rfl) ?_
    refine ho_alen (by decide) C hR hw1 dX12_isHere_78 ?_
    refine lv_icmp_ge (tgt := 107) C.1 C.2.1 dX12_isHere_79 (by decide) (fun hc => ?_) (fun hc => ?_)
    · replace h := if_t h hc
      refine lv_iconst (v := (1 : Int32)) C.1 C.2.1 dX12_isHere_107 (by decide) ?_
      exact ho_zret C hR (Or.inr rfl) h dX12_isHere_108
    · replace h := if_f h hc
      refine lv_aload_n C.1 C.2.1 dX12_isHere_82 rfl (lv_at hl 0 rfl) ?_
      refine ho_getR (a' := 1) C cf12 fM_7 hR aM_0 rfl dX12_isHere_83 ?_
      refine lv_aload_n C.1 C.2.1 dX12_isHere_86 rfl (lv_at hl 0 rfl) ?_
      refine ho_getI C cf12 fM_270 hR aM_0 dX12_isHere_87 ?_
      refine lv_iload_n C.1 C.2.1 dX12_isHere_90 rfl (lv_at hl 2 rfl) ?_
      refine lv_iadd C.1 C.2.1 dX12_isHere_91 ?_
      obtain ⟨v1, e1, hi1, h⟩ := ldI_ok h
      refine hr_ild C hR aM_1 hi1 e1 dX12_isHere_92 ?_
      refine lv_aload_n C.1 C.2.1 dX12_isHere_93 rfl (lv_at hl 1 rfl) ?_
      refine lv_iload_n C.1 C.2.1 dX12_isHere_94 rfl (lv_at hl 2 rfl) ?_
      obtain ⟨v2, e2, hi2, h⟩ := ldI_ok h
      refine hr_cld C hR hw1 hi2 e2 dX12_isHere_95 ?_
      refine lv_icmp_eq (tgt := 101) C.1 C.2.1 dX12_isHere_96 (by decide) (fun hc => ?_) (fun hc => ?_)
      · replace h := if_t h hc
        obtain ⟨v3, e3, h⟩ := le1_ok h
        refine lv_iinc (v := v3) (lv' := [(3, .int v3), (0, .ref (E.2.1 0)), (1, .ref (E.2.1 w1))]) C.1 C.2.1 dX12_isHere_101 hl (k := 2) rfl (by rw [e3]; rfl) (by decide) rfl (fun ls hl => ?_)
        refine lv_goto (tgt := 76) C.1 C.2.1 dX12_isHere_104 (by decide) ?_
        exact ih v3 S h _ _ _ hR (lv_sub hl [1, 2, 0] rfl)
      · replace h := if_f h hc
        refine lv_iconst (v := (0 : Int32)) C.1 C.2.1 dX12_isHere_99 (by decide) ?_
        exact ho_zret C hR (Or.inl rfl) h dX12_isHere_100
def f_X12_isHere_61 (w1 n1 : Nat) (x2 : Int32) (S : Hp) : Option (Int32 × Hp) :=
  if (x2 - (S.1 0 2)) = (Int32.ofNat n1) then f_X12_isHere_76 w1 n1 5000 (0 : Int32) S else some ((0 : Int32), S)
set_option maxHeartbeats 4000000 in
set_option maxRecDepth 100000 in
theorem w_X12_isHere_61 {p : Program} {l : Launch} {e : Env} {s : State} {m : MethodId} {args : Array Value} {below : List Frame} {meth : Method} {c : Code} {E : Ev} {S0 : Hp} {r : (Int32 × Hp)} (C : ho_I p s m args meth c RX12 cX12_isHere 4 (some .boolean)) (w1 n1 : Nat) (hw1 : w1 ∈ yM.1 ∧ yM.2.1 w1 = (3, n1)) :
    ∀ (x2 : Int32) (S : Hp), f_X12_isHere_61 w1 n1 x2 S = some r → ho_G p l e s m args below meth c yM E S0 1 4 (some (.int r.1), r.2) 61 [(0, .ref (E.2.1 0)), (1, .ref (E.2.1 w1)), (2, .int x2)] [] S := by
  intro x2 S h H locs ls hR hl
  unfold f_X12_isHere_61 at h
  refine lv_iload_n C.1 C.2.1 dX12_isHere_61 rfl (lv_at hl 2 rfl) ?_
  refine lv_aload_n C.1 C.2.1 dX12_isHere_62 rfl (lv_at hl 0 rfl) ?_
  refine ho_getI C cf12 fM_270 hR aM_0 dX12_isHere_63 ?_
  refine lv_isub C.1 C.2.1 dX12_isHere_66 ?_
  refine lv_aload_n C.1 C.2.1 dX12_isHere_67 rfl (lv_at hl 1 rfl) ?_
  refine ho_alen (by decide) C hR hw1 dX12_isHere_68 ?_
  refine lv_icmp_eq (tgt := 74) C.1 C.2.1 dX12_isHere_69 (by decide) (fun hc => ?_) (fun hc => ?_)
  · replace h := if_t h hc
    refine lv_iconst (v := (0 : Int32)) C.1 C.2.1 dX12_isHere_74 (by decide) ?_
    refine lv_istore_n (lv' := [(3, .int (0 : Int32)), (0, .ref (E.2.1 0)), (1, .ref (E.2.1 w1)), (2, .int x2)]) C.1 C.2.1 dX12_isHere_75 rfl hl (by decide) rfl (fun ls hl => ?_)
    exact w_X12_isHere_76 C w1 n1 hw1 5000 (0 : Int32) S h _ _ _ hR (lv_sub hl [1, 2, 0] rfl)
  · replace h := if_f h hc
    refine lv_iconst (v := (0 : Int32)) C.1 C.2.1 dX12_isHere_72 (by decide) ?_
    exact ho_zret C hR (Or.inl rfl) h dX12_isHere_73
def f_X12_isHere_35 (w1 n1 : Nat) : Nat → Int32 → Hp → Option (Int32 × Hp)
  | 0, _, _ => none
  | k + 1, x2, S => if (S.1 0 3) ≤ x2 then f_X12_isHere_61 w1 n1 x2 S else ldI S 1 1600 x2 (fun v1 => ob2 (f_X12_isLetter v1 S) (fun r2 S2 => if r2 = 0 then f_X12_isHere_61 w1 n1 x2 S2 else le1 (x2 + (1 : Int32)) (fun v3 => f_X12_isHere_35 w1 n1 k v3 S2)))
set_option maxHeartbeats 4000000 in
set_option maxRecDepth 100000 in
theorem w_X12_isHere_35 {p : Program} {l : Launch} {e : Env} {s : State} {m : MethodId} {args : Array Value} {below : List Frame} {meth : Method} {c : Code} {E : Ev} {S0 : Hp} {r : (Int32 × Hp)} (C : ho_I p s m args meth c RX12 cX12_isHere 4 (some .boolean)) (w1 n1 : Nat) (hw1 : w1 ∈ yM.1 ∧ yM.2.1 w1 = (3, n1)) :
    ∀ (k : Nat) (x2 : Int32) (S : Hp), f_X12_isHere_35 w1 n1 k x2 S = some r → ho_G p l e s m args below meth c yM E S0 1 4 (some (.int r.1), r.2) 35 [(0, .ref (E.2.1 0)), (1, .ref (E.2.1 w1)), (2, .int x2)] [] S := by
  intro k
  induction k with
  | zero =>
    intro x2 S h
    exact absurd (show (none : Option (Int32 × Hp)) = some r from h) (by simp)
  | succ k ih =>
    intro x2 S h H locs ls hR hl
    rw [f_X12_isHere_35] at h
    refine lv_iload_n C.1 C.2.1 dX12_isHere_35 rfl (lv_at hl 2 rfl) ?_
    refine lv_aload_n C.1 C.2.1 dX12_isHere_36 rfl (lv_at hl 0 rfl) ?_
    refine ho_getI C cf12 fM_273 hR aM_0 dX12_isHere_37 ?_
    refine lv_icmp_ge (tgt := 61) C.1 C.2.1 dX12_isHere_40 (by decide) (fun hc => ?_) (fun hc => ?_)
    · replace h := if_t h hc
      exact w_X12_isHere_61 C w1 n1 hw1 x2 S h _ _ _ hR (lv_sub hl [0, 1, 2] rfl)
    · replace h := if_f h hc
      refine lv_aload_n C.1 C.2.1 dX12_isHere_43 rfl (lv_at hl 0 rfl) ?_
      refine ho_getR (a' := 1) C cf12 fM_7 hR aM_0 rfl dX12_isHere_44 ?_
      refine lv_iload_n C.1 C.2.1 dX12_isHere_47 rfl (lv_at hl 2 rfl) ?_
      obtain ⟨v1, e1, hi1, h⟩ := ldI_ok h
      refine hr_ild C hR aM_1 hi1 e1 dX12_isHere_48 ?_
      obtain ⟨r2, S2, h2, h⟩ := ob2_ok h
      refine hr_Si (v := r2) (S' := S2) (As := [.int v1]) (rest := []) C (c_X12_isLetter l E v1 _ _ h2) ys_X12_isLetter lk_RX12_280 rfl rfl hl.1 (Nat.le_of_ble_eq_true rfl) (by decide) (by decide) hR (ho_A hR) dX12_isHere_49 (fun H locs hR => ?_)
      refine lv_if_eq (tgt := 61) C.1 C.2.1 dX12_isHere_52 (by decide) (fun hc => ?_) (fun hc => ?_)
      · replace h := if_t h hc
        exact w_X12_isHere_61 C w1 n1 hw1 x2 S2 h _ _ _ hR (lv_sub hl [0, 1, 2] rfl)
      · replace h := if_f h hc
        obtain ⟨v3, e3, h⟩ := le1_ok h
        refine lv_iinc (v := v3) (lv' := [(2, .int v3), (0, .ref (E.2.1 0)), (1, .ref (E.2.1 w1))]) C.1 C.2.1 dX12_isHere_55 hl (k := 2) rfl (by rw [e3]; rfl) (by decide) rfl (fun ls hl => ?_)
        refine lv_goto (tgt := 35) C.1 C.2.1 dX12_isHere_58 (by decide) ?_
        exact ih v3 S2 h _ _ _ hR (lv_sub hl [1, 2, 0] rfl)
def f_X12_isHere (w1 : Nat) (n1 : Nat) (S : Hp) : Option (Int32 × Hp) :=
  if (S.1 0 5) = 0 then ob2 (f_X12_look0 S) (fun r1 S1 => ob2 (f_X12_isLetter r1 S1) (fun r2 S2 => if r2 = 0 then some ((0 : Int32), S2) else if (S2.1 0 2) = (S2.1 0 4) then some ((0 : Int32), S2) else le1 (S2.1 0 2) (fun v3 => f_X12_isHere_35 w1 n1 5000 v3 S2))) else some ((0 : Int32), S)
set_option maxHeartbeats 4000000 in
set_option maxRecDepth 100000 in
theorem c_X12_isHere (l : Launch) (E : Ev) (w1 : Nat) (n1 : Nat) (hw1 : w1 ∈ yM.1 ∧ yM.2.1 w1 = (3, n1)) (S : Hp) (r : (Int32 × Hp)) (h : f_X12_isHere w1 n1 S = some r) : ho_M l yM E yX12_isHere cX12_isHere 4 (some .boolean) 1 [.ref (E.2.1 0), .ref (E.2.1 w1)] S (some (.int r.1), r.2) := by
  refine ho_in (by decide) (Nat.le_of_ble_eq_true rfl) ?_
  intro p e s m args below meth c C hR ls hl
  have C : ho_I p s m args meth c RX12 cX12_isHere 4 (some .boolean) := C
  have hl : lv_has ls 4 [(0, .ref (E.2.1 0)), (1, .ref (E.2.1 w1))] := hl
  unfold f_X12_isHere at h
  refine lv_aload_n C.1 C.2.1 dX12_isHere_0 rfl (lv_at hl 0 rfl) ?_
  refine ho_getI C cf12 fM_264 hR aM_0 dX12_isHere_1 ?_
  refine lv_if_ne (tgt := 28) C.1 C.2.1 dX12_isHere_4 (by decide) (fun hc => ?_) (fun hc => ?_)
  · replace h := if_f h hc
    refine lv_iconst (v := (0 : Int32)) C.1 C.2.1 dX12_isHere_28 (by decide) ?_
    exact ho_zret C hR (Or.inl rfl) h dX12_isHere_29
  · replace h := if_t h hc
    refine lv_aload_n C.1 C.2.1 dX12_isHere_7 rfl (lv_at hl 0 rfl) ?_
    obtain ⟨r1, S1, h1, h⟩ := ob2_ok h
    refine hr_Vi (v := r1) (S' := S1) (As := []) (rest := []) C cf12 (c_X12_look0 l E _ _ h1) yv_X12_look0 lk_RX12_276 rfl aM_0 rfl rfl hl.1 (Nat.le_of_ble_eq_true rfl) (by decide) (by decide) hR (ho_A hR) dX12_isHere_8 (fun H locs hR => ?_)
    obtain ⟨r2, S2, h2, h⟩ := ob2_ok h
    refine hr_Si (v := r2) (S' := S2) (As := [.int r1]) (rest := []) C (c_X12_isLetter l E r1 _ _ h2) ys_X12_isLetter lk_RX12_280 rfl rfl hl.1 (Nat.le_of_ble_eq_true rfl) (by decide) (by decide) hR (ho_A hR) dX12_isHere_11 (fun H locs hR => ?_)
    refine lv_if_eq (tgt := 28) C.1 C.2.1 dX12_isHere_14 (by decide) (fun hc => ?_) (fun hc => ?_)
    · replace h := if_t h hc
      refine lv_iconst (v := (0 : Int32)) C.1 C.2.1 dX12_isHere_28 (by decide) ?_
      exact ho_zret C hR (Or.inl rfl) h dX12_isHere_29
    · replace h := if_f h hc
      refine lv_aload_n C.1 C.2.1 dX12_isHere_17 rfl (lv_at hl 0 rfl) ?_
      refine ho_getI C cf12 fM_270 hR aM_0 dX12_isHere_18 ?_
      refine lv_aload_n C.1 C.2.1 dX12_isHere_21 rfl (lv_at hl 0 rfl) ?_
      refine ho_getI C cf12 fM_284 hR aM_0 dX12_isHere_22 ?_
      refine lv_icmp_ne (tgt := 30) C.1 C.2.1 dX12_isHere_25 (by decide) (fun hc => ?_) (fun hc => ?_)
      · replace h := if_f h hc
        refine lv_aload_n C.1 C.2.1 dX12_isHere_30 rfl (lv_at hl 0 rfl) ?_
        refine ho_getI C cf12 fM_270 hR aM_0 dX12_isHere_31 ?_
        refine lv_topi (fun v3 e3 => ?_)
        replace h := le1_at e3 h
        refine lv_istore_n (lv' := [(2, .int v3), (0, .ref (E.2.1 0)), (1, .ref (E.2.1 w1))]) C.1 C.2.1 dX12_isHere_34 rfl hl (by decide) rfl (fun ls hl => ?_)
        exact w_X12_isHere_35 C w1 n1 hw1 5000 v3 S2 h _ _ _ hR (lv_sub hl [1, 2, 0] rfl)
      · replace h := if_t h hc
        refine lv_iconst (v := (0 : Int32)) C.1 C.2.1 dX12_isHere_28 (by decide) ?_
        exact ho_zret C hR (Or.inl rfl) h dX12_isHere_29
theorem dX12_takes_0 : decode cX12_takes 0 = .ok (.aload_n 0, 1) := by decide +kernel
theorem dX12_takes_1 : decode cX12_takes 1 = .ok (.aload_n 1, 1) := by decide +kernel
theorem dX12_takes_2 : decode cX12_takes 2 = .ok (.invokevirtual 287, 3) := by decide +kernel
theorem dX12_takes_5 : decode cX12_takes 5 = .ok (.ifCond .ne 5, 3) := by decide +kernel
theorem dX12_takes_8 : decode cX12_takes 8 = .ok (.iconst 0, 1) := by decide +kernel
theorem dX12_takes_9 : decode cX12_takes 9 = .ok (.ireturn, 1) := by decide +kernel
theorem dX12_takes_10 : decode cX12_takes 10 = .ok (.aload_n 0, 1) := by decide +kernel
theorem dX12_takes_11 : decode cX12_takes 11 = .ok (.dup, 1) := by decide +kernel
theorem dX12_takes_12 : decode cX12_takes 12 = .ok (.getfield 270, 3) := by decide +kernel
theorem dX12_takes_15 : decode cX12_takes 15 = .ok (.aload_n 1, 1) := by decide +kernel
theorem dX12_takes_16 : decode cX12_takes 16 = .ok (.arraylength, 1) := by decide +kernel
theorem dX12_takes_17 : decode cX12_takes 17 = .ok (.iadd, 1) := by decide +kernel
theorem dX12_takes_18 : decode cX12_takes 18 = .ok (.putfield 270, 3) := by decide +kernel
theorem dX12_takes_21 : decode cX12_takes 21 = .ok (.aload_n 0, 1) := by decide +kernel
theorem dX12_takes_22 : decode cX12_takes 22 = .ok (.aload_n 0, 1) := by decide +kernel
theorem dX12_takes_23 : decode cX12_takes 23 = .ok (.getfield 270, 3) := by decide +kernel
theorem dX12_takes_26 : decode cX12_takes 26 = .ok (.putfield 284, 3) := by decide +kernel
theorem dX12_takes_29 : decode cX12_takes 29 = .ok (.iconst 1, 1) := by decide +kernel
theorem dX12_takes_30 : decode cX12_takes 30 = .ok (.ireturn, 1) := by decide +kernel
def f_X12_takes (w1 : Nat) (n1 : Nat) (S : Hp) : Option (Int32 × Hp) :=
  ob2 (f_X12_isHere w1 n1 S) (fun r1 S1 => if r1 = 0 then some ((0 : Int32), S1) else le1 (ho_sI S1 0 2 ((S1.1 0 2) + (Int32.ofNat n1))) (fun S2 => le1 (ho_sI S2 0 4 (S2.1 0 2)) (fun S3 => some ((1 : Int32), S3))))
set_option maxHeartbeats 4000000 in
set_option maxRecDepth 100000 in
theorem c_X12_takes (l : Launch) (E : Ev) (w1 : Nat) (n1 : Nat) (hw1 : w1 ∈ yM.1 ∧ yM.2.1 w1 = (3, n1)) (S : Hp) (r : (Int32 × Hp)) (h : f_X12_takes w1 n1 S = some r) : ho_M l yM E yX12_takes cX12_takes 2 (some .boolean) 2 [.ref (E.2.1 0), .ref (E.2.1 w1)] S (some (.int r.1), r.2) := by
  refine ho_in (by decide) (Nat.le_of_ble_eq_true rfl) ?_
  intro p e s m args below meth c C hR ls hl
  have C : ho_I p s m args meth c RX12 cX12_takes 2 (some .boolean) := C
  have hl : lv_has ls 2 [(0, .ref (E.2.1 0)), (1, .ref (E.2.1 w1))] := hl
  unfold f_X12_takes at h
  refine lv_aload_n C.1 C.2.1 dX12_takes_0 rfl (lv_at hl 0 rfl) ?_
  refine lv_aload_n C.1 C.2.1 dX12_takes_1 rfl (lv_at hl 1 rfl) ?_
  obtain ⟨r1, S1, h1, h⟩ := ob2_ok h
  refine hr_Vi (v := r1) (S' := S1) (As := [.ref (E.2.1 w1)]) (rest := []) C cf12 (c_X12_isHere l E w1 n1 hw1 _ _ h1) yv_X12_isHere lk_RX12_287 rfl aM_0 rfl rfl hl.1 (Nat.le_of_ble_eq_true rfl) (by decide) (by decide) hR (ho_A hR) dX12_takes_2 (fun H locs hR => ?_)
  refine lv_if_ne (tgt := 10) C.1 C.2.1 dX12_takes_5 (by decide) (fun hc => ?_) (fun hc => ?_)
  · replace h := if_f h hc
    refine lv_aload_n C.1 C.2.1 dX12_takes_10 rfl (lv_at hl 0 rfl) ?_
    refine lv_dup C.1 C.2.1 dX12_takes_11 rfl ?_
    refine ho_getI C cf12 fM_270 hR aM_0 dX12_takes_12 ?_
    refine lv_aload_n C.1 C.2.1 dX12_takes_15 rfl (lv_at hl 1 rfl) ?_
    refine ho_alen (by decide) C hR hw1 dX12_takes_16 ?_
    refine lv_iadd C.1 C.2.1 dX12_takes_17 ?_
    obtain ⟨S2, e2, h⟩ := le1_ok h
    refine hr_putI C cf12 fM_270 hR aM_0 e2 dX12_takes_18 (fun H locs hR => ?_)
    refine lv_aload_n C.1 C.2.1 dX12_takes_21 rfl (lv_at hl 0 rfl) ?_
    refine lv_aload_n C.1 C.2.1 dX12_takes_22 rfl (lv_at hl 0 rfl) ?_
    refine ho_getI C cf12 fM_270 hR aM_0 dX12_takes_23 ?_
    obtain ⟨S3, e3, h⟩ := le1_ok h
    refine hr_putI C cf12 fM_284 hR aM_0 e3 dX12_takes_26 (fun H locs hR => ?_)
    refine lv_iconst (v := (1 : Int32)) C.1 C.2.1 dX12_takes_29 (by decide) ?_
    exact ho_zret C hR (Or.inr rfl) h dX12_takes_30
  · replace h := if_t h hc
    refine lv_iconst (v := (0 : Int32)) C.1 C.2.1 dX12_takes_8 (by decide) ?_
    exact ho_zret C hR (Or.inl rfl) h dX12_takes_9
theorem dX12_asks_0 : decode cX12_asks 0 = .ok (.aload_n 0, 1) := by decide +kernel
theorem dX12_asks_1 : decode cX12_asks 1 = .ok (.getfield 264, 3) := by decide +kernel
theorem dX12_asks_4 : decode cX12_asks 4 = .ok (.ifCond .ne 20, 3) := by decide +kernel
theorem dX12_asks_7 : decode cX12_asks 7 = .ok (.aload_n 0, 1) := by decide +kernel
theorem dX12_asks_8 : decode cX12_asks 8 = .ok (.aload_n 1, 1) := by decide +kernel
theorem dX12_asks_9 : decode cX12_asks 9 = .ok (.invokevirtual 291, 3) := by decide +kernel
theorem dX12_asks_12 : decode cX12_asks 12 = .ok (.ifCond .ne 12, 3) := by decide +kernel
theorem dX12_asks_15 : decode cX12_asks 15 = .ok (.aload_n 0, 1) := by decide +kernel
theorem dX12_asks_16 : decode cX12_asks 16 = .ok (.iconst 1, 1) := by decide +kernel
theorem dX12_asks_17 : decode cX12_asks 17 = .ok (.aload_n 0, 1) := by decide +kernel
theorem dX12_asks_18 : decode cX12_asks 18 = .ok (.getfield 270, 3) := by decide +kernel
theorem dX12_asks_21 : decode cX12_asks 21 = .ok (.invokevirtual 294, 3) := by decide +kernel
theorem dX12_asks_24 : decode cX12_asks 24 = .ok (.return_, 1) := by decide +kernel
def f_X12_asks (w1 : Nat) (n1 : Nat) (S : Hp) : Option Hp :=
  if (S.1 0 5) = 0 then ob2 (f_X12_takes w1 n1 S) (fun r1 S1 => if r1 = 0 then ob (f_X12_fail (1 : Int32) (S1.1 0 2) S1) (fun S2 => some S2) else some S1) else some S
set_option maxHeartbeats 4000000 in
set_option maxRecDepth 100000 in
theorem c_X12_asks (l : Launch) (E : Ev) (w1 : Nat) (n1 : Nat) (hw1 : w1 ∈ yM.1 ∧ yM.2.1 w1 = (3, n1)) (S : Hp) (r : Hp) (h : f_X12_asks w1 n1 S = some r) : ho_M l yM E yX12_asks cX12_asks 2 none 3 [.ref (E.2.1 0), .ref (E.2.1 w1)] S (none, r) := by
  refine ho_in (by decide) (Nat.le_of_ble_eq_true rfl) ?_
  intro p e s m args below meth c C hR ls hl
  have C : ho_I p s m args meth c RX12 cX12_asks 2 none := C
  have hl : lv_has ls 2 [(0, .ref (E.2.1 0)), (1, .ref (E.2.1 w1))] := hl
  unfold f_X12_asks at h
  refine lv_aload_n C.1 C.2.1 dX12_asks_0 rfl (lv_at hl 0 rfl) ?_
  refine ho_getI C cf12 fM_264 hR aM_0 dX12_asks_1 ?_
  refine lv_if_ne (tgt := 24) C.1 C.2.1 dX12_asks_4 (by decide) (fun hc => ?_) (fun hc => ?_)
  · replace h := if_f h hc
    exact ho_vret C hR h dX12_asks_24
  · replace h := if_t h hc
    refine lv_aload_n C.1 C.2.1 dX12_asks_7 rfl (lv_at hl 0 rfl) ?_
    refine lv_aload_n C.1 C.2.1 dX12_asks_8 rfl (lv_at hl 1 rfl) ?_
    obtain ⟨r1, S1, h1, h⟩ := ob2_ok h
    refine hr_Vi (v := r1) (S' := S1) (As := [.ref (E.2.1 w1)]) (rest := []) C cf12 (c_X12_takes l E w1 n1 hw1 _ _ h1) yv_X12_takes lk_RX12_291 rfl aM_0 rfl rfl hl.1 (Nat.le_of_ble_eq_true rfl) (by decide) (by decide) hR (ho_A hR) dX12_asks_9 (fun H locs hR => ?_)
    refine lv_if_ne (tgt := 24) C.1 C.2.1 dX12_asks_12 (by decide) (fun hc => ?_) (fun hc => ?_)
    · replace h := if_f h hc
      exact ho_vret C hR h dX12_asks_24
    · replace h := if_t h hc
      refine lv_aload_n C.1 C.2.1 dX12_asks_15 rfl (lv_at hl 0 rfl) ?_
      refine lv_iconst (v := (1 : Int32)) C.1 C.2.1 dX12_asks_16 (by decide) ?_
      refine lv_aload_n C.1 C.2.1 dX12_asks_17 rfl (lv_at hl 0 rfl) ?_
      refine ho_getI C cf12 fM_270 hR aM_0 dX12_asks_18 ?_
      obtain ⟨S2, h2, h⟩ := ob_ok h
      refine hr_Vv (S' := S2) (As := [.int (1 : Int32), .int (S1.1 0 2)]) (rest := []) C cf12 (c_X12_fail l E (1 : Int32) (S1.1 0 2) _ _ h2) yv_X12_fail lk_RX12_294 rfl aM_0 rfl rfl hl.1 (Nat.le_of_ble_eq_true rfl) (by decide) (by decide) hR (ho_A hR) dX12_asks_21 (fun H locs hR => ?_)
      exact ho_vret C hR h dX12_asks_24
theorem dX12_takesSign_0 : decode cX12_takesSign 0 = .ok (.aload_n 0, 1) := by decide +kernel
theorem dX12_takesSign_1 : decode cX12_takesSign 1 = .ok (.getfield 264, 3) := by decide +kernel
theorem dX12_takesSign_4 : decode cX12_takesSign 4 = .ok (.ifCond .ne 11, 3) := by decide +kernel
theorem dX12_takesSign_7 : decode cX12_takesSign 7 = .ok (.aload_n 0, 1) := by decide +kernel
theorem dX12_takesSign_8 : decode cX12_takesSign 8 = .ok (.invokevirtual 276, 3) := by decide +kernel
theorem dX12_takesSign_11 : decode cX12_takesSign 11 = .ok (.iload_n 1, 1) := by decide +kernel
theorem dX12_takesSign_12 : decode cX12_takesSign 12 = .ok (.if_icmp .eq 5, 3) := by decide +kernel
theorem dX12_takesSign_15 : decode cX12_takesSign 15 = .ok (.iconst 0, 1) := by decide +kernel
theorem dX12_takesSign_16 : decode cX12_takesSign 16 = .ok (.ireturn, 1) := by decide +kernel
theorem dX12_takesSign_17 : decode cX12_takesSign 17 = .ok (.aload_n 0, 1) := by decide +kernel
theorem dX12_takesSign_18 : decode cX12_takesSign 18 = .ok (.dup, 1) := by decide +kernel
theorem dX12_takesSign_19 : decode cX12_takesSign 19 = .ok (.getfield 270, 3) := by decide +kernel
theorem dX12_takesSign_22 : decode cX12_takesSign 22 = .ok (.iconst 1, 1) := by decide +kernel
theorem dX12_takesSign_23 : decode cX12_takesSign 23 = .ok (.iadd, 1) := by decide +kernel
theorem dX12_takesSign_24 : decode cX12_takesSign 24 = .ok (.putfield 270, 3) := by decide +kernel
theorem dX12_takesSign_27 : decode cX12_takesSign 27 = .ok (.iconst 1, 1) := by decide +kernel
theorem dX12_takesSign_28 : decode cX12_takesSign 28 = .ok (.ireturn, 1) := by decide +kernel
def f_X12_takesSign (x1 : Int32) (S : Hp) : Option (Int32 × Hp) :=
  if (S.1 0 5) = 0 then ob2 (f_X12_look0 S) (fun r1 S1 => if r1 = x1 then le1 (ho_sI S1 0 2 ((S1.1 0 2) + (1 : Int32))) (fun S2 => some ((1 : Int32), S2)) else some ((0 : Int32), S1)) else some ((0 : Int32), S)
set_option maxHeartbeats 4000000 in
set_option maxRecDepth 100000 in
theorem c_X12_takesSign (l : Launch) (E : Ev) (x1 : Int32) (S : Hp) (r : (Int32 × Hp)) (h : f_X12_takesSign x1 S = some r) : ho_M l yM E yX12_takesSign cX12_takesSign 2 (some .boolean) 1 [.ref (E.2.1 0), .int x1] S (some (.int r.1), r.2) := by
  refine ho_in (by decide) (Nat.le_of_ble_eq_true rfl) ?_
  intro p e s m args below meth c C hR ls hl
  have C : ho_I p s m args meth c RX12 cX12_takesSign 2 (some .boolean) := C
  have hl : lv_has ls 2 [(0, .ref (E.2.1 0)), (1, .int x1)] := hl
  unfold f_X12_takesSign at h
  refine lv_aload_n C.1 C.2.1 dX12_takesSign_0 rfl (lv_at hl 0 rfl) ?_
  refine ho_getI C cf12 fM_264 hR aM_0 dX12_takesSign_1 ?_
  refine lv_if_ne (tgt := 15) C.1 C.2.1 dX12_takesSign_4 (by decide) (fun hc => ?_) (fun hc => ?_)
  · replace h := if_f h hc
    refine lv_iconst (v := (0 : Int32)) C.1 C.2.1 dX12_takesSign_15 (by decide) ?_
    exact ho_zret C hR (Or.inl rfl) h dX12_takesSign_16
  · replace h := if_t h hc
    refine lv_aload_n C.1 C.2.1 dX12_takesSign_7 rfl (lv_at hl 0 rfl) ?_
    obtain ⟨r1, S1, h1, h⟩ := ob2_ok h
    refine hr_Vi (v := r1) (S' := S1) (As := []) (rest := []) C cf12 (c_X12_look0 l E _ _ h1) yv_X12_look0 lk_RX12_276 rfl aM_0 rfl rfl hl.1 (Nat.le_of_ble_eq_true rfl) (by decide) (by decide) hR (ho_A hR) dX12_takesSign_8 (fun H locs hR => ?_)
    refine lv_iload_n C.1 C.2.1 dX12_takesSign_11 rfl (lv_at hl 1 rfl) ?_
    refine lv_icmp_eq (tgt := 17) C.1 C.2.1 dX12_takesSign_12 (by decide) (fun hc => ?_) (fun hc => ?_)
    · replace h := if_t h hc
      refine lv_aload_n C.1 C.2.1 dX12_takesSign_17 rfl (lv_at hl 0 rfl) ?_
      refine lv_dup C.1 C.2.1 dX12_takesSign_18 rfl ?_
      refine ho_getI C cf12 fM_270 hR aM_0 dX12_takesSign_19 ?_
      refine lv_iconst (v := (1 : Int32)) C.1 C.2.1 dX12_takesSign_22 (by decide) ?_
      refine lv_iadd C.1 C.2.1 dX12_takesSign_23 ?_
      obtain ⟨S2, e2, h⟩ := le1_ok h
      refine hr_putI C cf12 fM_270 hR aM_0 e2 dX12_takesSign_24 (fun H locs hR => ?_)
      refine lv_iconst (v := (1 : Int32)) C.1 C.2.1 dX12_takesSign_27 (by decide) ?_
      exact ho_zret C hR (Or.inr rfl) h dX12_takesSign_28
    · replace h := if_f h hc
      refine lv_iconst (v := (0 : Int32)) C.1 C.2.1 dX12_takesSign_15 (by decide) ?_
      exact ho_zret C hR (Or.inl rfl) h dX12_takesSign_16
theorem dX12_asksSign_0 : decode cX12_asksSign 0 = .ok (.aload_n 0, 1) := by decide +kernel
theorem dX12_asksSign_1 : decode cX12_asksSign 1 = .ok (.getfield 264, 3) := by decide +kernel
theorem dX12_asksSign_4 : decode cX12_asksSign 4 = .ok (.ifCond .ne 20, 3) := by decide +kernel
theorem dX12_asksSign_7 : decode cX12_asksSign 7 = .ok (.aload_n 0, 1) := by decide +kernel
theorem dX12_asksSign_8 : decode cX12_asksSign 8 = .ok (.iload_n 1, 1) := by decide +kernel
theorem dX12_asksSign_9 : decode cX12_asksSign 9 = .ok (.invokevirtual 298, 3) := by decide +kernel
theorem dX12_asksSign_12 : decode cX12_asksSign 12 = .ok (.ifCond .ne 12, 3) := by decide +kernel
theorem dX12_asksSign_15 : decode cX12_asksSign 15 = .ok (.aload_n 0, 1) := by decide +kernel
theorem dX12_asksSign_16 : decode cX12_asksSign 16 = .ok (.iconst 1, 1) := by decide +kernel
theorem dX12_asksSign_17 : decode cX12_asksSign 17 = .ok (.aload_n 0, 1) := by decide +kernel
theorem dX12_asksSign_18 : decode cX12_asksSign 18 = .ok (.getfield 270, 3) := by decide +kernel
theorem dX12_asksSign_21 : decode cX12_asksSign 21 = .ok (.invokevirtual 294, 3) := by decide +kernel
theorem dX12_asksSign_24 : decode cX12_asksSign 24 = .ok (.return_, 1) := by decide +kernel
def f_X12_asksSign (x1 : Int32) (S : Hp) : Option Hp :=
  if (S.1 0 5) = 0 then ob2 (f_X12_takesSign x1 S) (fun r1 S1 => if r1 = 0 then ob (f_X12_fail (1 : Int32) (S1.1 0 2) S1) (fun S2 => some S2) else some S1) else some S
set_option maxHeartbeats 4000000 in
set_option maxRecDepth 100000 in
theorem c_X12_asksSign (l : Launch) (E : Ev) (x1 : Int32) (S : Hp) (r : Hp) (h : f_X12_asksSign x1 S = some r) : ho_M l yM E yX12_asksSign cX12_asksSign 2 none 2 [.ref (E.2.1 0), .int x1] S (none, r) := by
  refine ho_in (by decide) (Nat.le_of_ble_eq_true rfl) ?_
  intro p e s m args below meth c C hR ls hl
  have C : ho_I p s m args meth c RX12 cX12_asksSign 2 none := C
  have hl : lv_has ls 2 [(0, .ref (E.2.1 0)), (1, .int x1)] := hl
  unfold f_X12_asksSign at h
  refine lv_aload_n C.1 C.2.1 dX12_asksSign_0 rfl (lv_at hl 0 rfl) ?_
  refine ho_getI C cf12 fM_264 hR aM_0 dX12_asksSign_1 ?_
  refine lv_if_ne (tgt := 24) C.1 C.2.1 dX12_asksSign_4 (by decide) (fun hc => ?_) (fun hc => ?_)
  · replace h := if_f h hc
    exact ho_vret C hR h dX12_asksSign_24
  · replace h := if_t h hc
    refine lv_aload_n C.1 C.2.1 dX12_asksSign_7 rfl (lv_at hl 0 rfl) ?_
    refine lv_iload_n C.1 C.2.1 dX12_asksSign_8 rfl (lv_at hl 1 rfl) ?_
    obtain ⟨r1, S1, h1, h⟩ := ob2_ok h
    refine hr_Vi (v := r1) (S' := S1) (As := [.int x1]) (rest := []) C cf12 (c_X12_takesSign l E x1 _ _ h1) yv_X12_takesSign lk_RX12_298 rfl aM_0 rfl rfl hl.1 (Nat.le_of_ble_eq_true rfl) (by decide) (by decide) hR (ho_A hR) dX12_asksSign_9 (fun H locs hR => ?_)
    refine lv_if_ne (tgt := 24) C.1 C.2.1 dX12_asksSign_12 (by decide) (fun hc => ?_) (fun hc => ?_)
    · replace h := if_f h hc
      exact ho_vret C hR h dX12_asksSign_24
    · replace h := if_t h hc
      refine lv_aload_n C.1 C.2.1 dX12_asksSign_15 rfl (lv_at hl 0 rfl) ?_
      refine lv_iconst (v := (1 : Int32)) C.1 C.2.1 dX12_asksSign_16 (by decide) ?_
      refine lv_aload_n C.1 C.2.1 dX12_asksSign_17 rfl (lv_at hl 0 rfl) ?_
      refine ho_getI C cf12 fM_270 hR aM_0 dX12_asksSign_18 ?_
      obtain ⟨S2, h2, h⟩ := ob_ok h
      refine hr_Vv (S' := S2) (As := [.int (1 : Int32), .int (S1.1 0 2)]) (rest := []) C cf12 (c_X12_fail l E (1 : Int32) (S1.1 0 2) _ _ h2) yv_X12_fail lk_RX12_294 rfl aM_0 rfl rfl hl.1 (Nat.le_of_ble_eq_true rfl) (by decide) (by decide) hR (ho_A hR) dX12_asksSign_21 (fun H locs hR => ?_)
      exact ho_vret C hR h dX12_asksSign_24
