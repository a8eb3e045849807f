/-! level 3: the Text's constructor -/
theorem dX10_init_0 : decode cX10_init 0 = .ok (.aload_n 0, 1) := by decide +kernel
theorem dX10_init_1 : decode cX10_init 1 = .ok (.invokespecial 3, 3) := by decide +kernel
theorem dX10_init_4 : decode cX10_init 4 = .ok (.aload_n 0, 1) := by decide +kernel
theorem dX10_init_5 : decode cX10_init 5 = .ok (.sipush 1600, 3) := by decide +kernel
theorem dX10_init_8 : decode cX10_init 8 = .ok (.newarray .byte, 2) := by decide +kernel
theorem dX10_init_10 : decode cX10_init 10 = .ok (.putfield 9, 3) := by decide +kernel
theorem dX10_init_13 : decode cX10_init 13 = .ok (.aload_n 0, 1) := by decide +kernel
theorem dX10_init_14 : decode cX10_init 14 = .ok (.iconst 0, 1) := by decide +kernel
theorem dX10_init_15 : decode cX10_init 15 = .ok (.putfield 15, 3) := by decide +kernel
theorem dX10_init_18 : decode cX10_init 18 = .ok (.aload_n 0, 1) := by decide +kernel
theorem dX10_init_19 : decode cX10_init 19 = .ok (.iconst 0, 1) := by decide +kernel
theorem dX10_init_20 : decode cX10_init 20 = .ok (.putfield 19, 3) := by decide +kernel
theorem dX10_init_23 : decode cX10_init 23 = .ok (.aload_n 0, 1) := by decide +kernel
theorem dX10_init_24 : decode cX10_init 24 = .ok (.iconst (-1), 1) := by decide +kernel
theorem dX10_init_25 : decode cX10_init 25 = .ok (.putfield 22, 3) := by decide +kernel
theorem dX10_init_28 : decode cX10_init 28 = .ok (.aload_n 0, 1) := by decide +kernel
theorem dX10_init_29 : decode cX10_init 29 = .ok (.iconst 0, 1) := by decide +kernel
theorem dX10_init_30 : decode cX10_init 30 = .ok (.putfield 25, 3) := by decide +kernel
theorem dX10_init_33 : decode cX10_init 33 = .ok (.aload_n 0, 1) := by decide +kernel
theorem dX10_init_34 : decode cX10_init 34 = .ok (.iconst 0, 1) := by decide +kernel
theorem dX10_init_35 : decode cX10_init 35 = .ok (.putfield 28, 3) := by decide +kernel
theorem dX10_init_38 : decode cX10_init 38 = .ok (.aload_n 0, 1) := by decide +kernel
theorem dX10_init_39 : decode cX10_init 39 = .ok (.iconst 0, 1) := by decide +kernel
theorem dX10_init_40 : decode cX10_init 40 = .ok (.putfield 31, 3) := by decide +kernel
theorem dX10_init_43 : decode cX10_init 43 = .ok (.aload_n 0, 1) := by decide +kernel
theorem dX10_init_44 : decode cX10_init 44 = .ok (.iconst 0, 1) := by decide +kernel
theorem dX10_init_45 : decode cX10_init 45 = .ok (.putfield 34, 3) := by decide +kernel
theorem dX10_init_48 : decode cX10_init 48 = .ok (.aload_n 0, 1) := by decide +kernel
theorem dX10_init_49 : decode cX10_init 49 = .ok (.iconst 0, 1) := by decide +kernel
theorem dX10_init_50 : decode cX10_init 50 = .ok (.putfield 37, 3) := by decide +kernel
theorem dX10_init_53 : decode cX10_init 53 = .ok (.aload_n 0, 1) := by decide +kernel
theorem dX10_init_54 : decode cX10_init 54 = .ok (.iconst 0, 1) := by decide +kernel
theorem dX10_init_55 : decode cX10_init 55 = .ok (.putfield 40, 3) := by decide +kernel
theorem dX10_init_58 : decode cX10_init 58 = .ok (.aload_n 0, 1) := by decide +kernel
theorem dX10_init_59 : decode cX10_init 59 = .ok (.bipush 35, 2) := by decide +kernel
theorem dX10_init_61 : decode cX10_init 61 = .ok (.newarray .int, 2) := by decide +kernel
theorem dX10_init_63 : decode cX10_init 63 = .ok (.putfield 43, 3) := by decide +kernel
theorem dX10_init_66 : decode cX10_init 66 = .ok (.iconst 0, 1) := by decide +kernel
theorem dX10_init_67 : decode cX10_init 67 = .ok (.istore_n 1, 1) := by decide +kernel
theorem dX10_init_68 : decode cX10_init 68 = .ok (.iload_n 1, 1) := by decide +kernel
theorem dX10_init_69 : decode cX10_init 69 = .ok (.sipush 210, 3) := by decide +kernel
theorem dX10_init_72 : decode cX10_init 72 = .ok (.if_icmp .ge 53, 3) := by decide +kernel
theorem dX10_init_75 : decode cX10_init 75 = .ok (.iload_n 1, 1) := by decide +kernel
theorem dX10_init_76 : decode cX10_init 76 = .ok (.bipush 6, 2) := by decide +kernel
theorem dX10_init_78 : decode cX10_init 78 = .ok (.idiv, 1) := by decide +kernel
theorem dX10_init_79 : decode cX10_init 79 = .ok (.istore_n 2, 1) := by decide +kernel
theorem dX10_init_80 : decode cX10_init 80 = .ok (.ldc 47, 2) := by decide +kernel
theorem dX10_init_82 : decode cX10_init 82 = .ok (.iload_n 1, 1) := by decide +kernel
theorem dX10_init_83 : decode cX10_init 83 = .ok (.invokevirtual 49, 3) := by decide +kernel
theorem dX10_init_86 : decode cX10_init 86 = .ok (.istore_n 3, 1) := by decide +kernel
theorem dX10_init_87 : decode cX10_init 87 = .ok (.aload_n 0, 1) := by decide +kernel
theorem dX10_init_88 : decode cX10_init 88 = .ok (.getfield 43, 3) := by decide +kernel
theorem dX10_init_91 : decode cX10_init 91 = .ok (.iload_n 2, 1) := by decide +kernel
theorem dX10_init_92 : decode cX10_init 92 = .ok (.aload_n 0, 1) := by decide +kernel
theorem dX10_init_93 : decode cX10_init 93 = .ok (.getfield 43, 3) := by decide +kernel
theorem dX10_init_96 : decode cX10_init 96 = .ok (.iload_n 2, 1) := by decide +kernel
theorem dX10_init_97 : decode cX10_init 97 = .ok (.iaload, 1) := by decide +kernel
theorem dX10_init_98 : decode cX10_init 98 = .ok (.bipush 27, 2) := by decide +kernel
theorem dX10_init_100 : decode cX10_init 100 = .ok (.imul, 1) := by decide +kernel
theorem dX10_init_101 : decode cX10_init 101 = .ok (.iload_n 3, 1) := by decide +kernel
theorem dX10_init_102 : decode cX10_init 102 = .ok (.bipush 32, 2) := by decide +kernel
theorem dX10_init_104 : decode cX10_init 104 = .ok (.if_icmp .ne 7, 3) := by decide +kernel
theorem dX10_init_107 : decode cX10_init 107 = .ok (.iconst 0, 1) := by decide +kernel
theorem dX10_init_108 : decode cX10_init 108 = .ok (.goto 9, 3) := by decide +kernel
theorem dX10_init_111 : decode cX10_init 111 = .ok (.iload_n 3, 1) := by decide +kernel
theorem dX10_init_112 : decode cX10_init 112 = .ok (.bipush 97, 2) := by decide +kernel
theorem dX10_init_114 : decode cX10_init 114 = .ok (.isub, 1) := by decide +kernel
theorem dX10_init_115 : decode cX10_init 115 = .ok (.iconst 1, 1) := by decide +kernel
theorem dX10_init_116 : decode cX10_init 116 = .ok (.iadd, 1) := by decide +kernel
theorem dX10_init_117 : decode cX10_init 117 = .ok (.iadd, 1) := by decide +kernel
theorem dX10_init_118 : decode cX10_init 118 = .ok (.iastore, 1) := by decide +kernel
theorem dX10_init_119 : decode cX10_init 119 = .ok (.iinc 1 1, 3) := by decide +kernel
theorem dX10_init_122 : decode cX10_init 122 = .ok (.goto (-54), 3) := by decide +kernel
theorem dX10_init_125 : decode cX10_init 125 = .ok (.return_, 1) := by decide +kernel
theorem wo_RX10 : Cond.methodLink RX10 3 Lib.objectInit ∈ gw := gt_1 (i := 35) (by decide +kernel) rfl
theorem fD_RX10_9 : dy_f RX10 10 TX10 11 9 0 2 (.array .byte) true := ⟨rfl, by decide, gt_1 (i := 77) (by decide +kernel) rfl, rfl, rfl, by decide +kernel, fun _ => rfl⟩
theorem fD_RX10_15 : dy_f RX10 10 TX10 11 15 1 0 .int false := ⟨rfl, by decide, gt_1 (i := 78) (by decide +kernel) rfl, rfl, rfl, by decide +kernel, fun _ => rfl⟩
theorem fD_RX10_19 : dy_f RX10 10 TX10 11 19 2 0 .int false := ⟨rfl, by decide, gt_1 (i := 82) (by decide +kernel) rfl, rfl, rfl, by decide +kernel, fun _ => rfl⟩
theorem fD_RX10_22 : dy_f RX10 10 TX10 11 22 3 0 .int false := ⟨rfl, by decide, gt_1 (i := 84) (by decide +kernel) rfl, rfl, rfl, by decide +kernel, fun _ => rfl⟩
theorem fD_RX10_25 : dy_f RX10 10 TX10 11 25 4 0 .int false := ⟨rfl, by decide, gt_1 (i := 86) (by decide +kernel) rfl, rfl, rfl, by decide +kernel, fun _ => rfl⟩
theorem fD_RX10_28 : dy_f RX10 10 TX10 11 28 5 0 .int false := ⟨rfl, by decide, gt_1 (i := 90) (by decide +kernel) rfl, rfl, rfl, by decide +kernel, fun _ => rfl⟩
theorem fD_RX10_31 : dy_f RX10 10 TX10 11 31 6 0 .int false := ⟨rfl, by decide, gt_1 (i := 94) (by decide +kernel) rfl, rfl, rfl, by decide +kernel, fun _ => rfl⟩
theorem fD_RX10_34 : dy_f RX10 10 TX10 11 34 7 0 .int false := ⟨rfl, by decide, gt_1 (i := 98) (by decide +kernel) rfl, rfl, rfl, by decide +kernel, fun _ => rfl⟩
theorem fD_RX10_37 : dy_f RX10 10 TX10 11 37 8 0 .int false := ⟨rfl, by decide, gt_1 (i := 100) (by decide +kernel) rfl, rfl, rfl, by decide +kernel, fun _ => rfl⟩
theorem fD_RX10_40 : dy_f RX10 10 TX10 11 40 9 0 .int false := ⟨rfl, by decide, gt_1 (i := 103) (by decide +kernel) rfl, rfl, rfl, by decide +kernel, fun _ => rfl⟩
theorem fD_RX10_43 : dy_f RX10 10 TX10 11 43 10 2 (.array .int) true := ⟨rfl, by decide, gt_1 (i := 104) (by decide +kernel) rfl, rfl, rfl, by decide +kernel, fun _ => rfl⟩
def dyW (D : Dp) (w : Nat) (g : Nat → Int32) : Dp := (D.1, D.2.1, fun b => if b = w then g else D.2.2.1 b, D.2.2.2)
theorem dyW_I {D : Dp} {w k : Nat} {g : Nat → Int32} {v : Int32} : dyI (dyW D w g) w k v = dyW D w (upd g k v) := by
  have e : (dyW D w g).2.2.1 w = g := if_pos rfl
  have h : (fun b => if b = w then upd ((dyW D w g).2.2.1 w) k v else (dyW D w g).2.2.1 b) = fun b => if b = w then upd g k v else D.2.2.1 b := by
    funext b
    by_cases hb : b = w
    · rw [if_pos hb, if_pos hb, e]
    · rw [if_neg hb, if_neg hb]
      exact if_neg hb
  show (D.1, D.2.1, (fun b => if b = w then upd ((dyW D w g).2.2.1 w) k v else (dyW D w g).2.2.1 b), D.2.2.2) = (D.1, D.2.1, (fun b => if b = w then upd g k v else D.2.2.1 b), D.2.2.2)
  rw [h]
theorem dyW_0 {D : Dp} {w : Nat} : dyW D w (D.2.2.1 w) = D := by
  have h : (fun b => if b = w then D.2.2.1 w else D.2.2.1 b) = D.2.2.1 := by
    funext b
    by_cases hb : b = w
    · rw [if_pos hb, hb]
    · rw [if_neg hb]
  show (D.1, D.2.1, (fun b => if b = w then D.2.2.1 w else D.2.2.1 b), D.2.2.2) = D
  rw [h]
def wch (i : Nat) : Int32 := if dby.getD i 0 = 32 then 0 else dby.getD i 0 - 97 + 1
def wvs : Nat → Nat → Int32
  | 0 => fun _ => 0
  | i + 1 => upd (wvs i) (i / 6) (wvs i (i / 6) * 27 + wch i)
theorem wvs_35 : ∀ j, j < 35 → wvs 210 j = nI (enc (wL.getD j [])) := by decide +kernel
theorem idiv6 : ∀ i, i < 210 → nI i / (6 : Int32) = nI (i / 6) := by decide +kernel
set_option maxHeartbeats 4000000 in
set_option maxRecDepth 100000 in
theorem w_X10_68 {p : Program} {l : Launch} {e : Env} {s : State} {m : MethodId} {args : Array Value} {below : List Frame} {meth : Method} {c : Code} {B x n : Nat} {E : Ev} {ak av : Nat → Nat} (I : dy_I p s m args meth c RX10 cX10_init 4 B n ak av) (D : Dp) (hx : x < D.1 ∧ D.2.1 x = (1, 10)) (hw : n + 1 < D.1 ∧ D.2.1 (n + 1) = (4, 35)) (hp : D.2.2.2.2 x 10 = some (n + 1)) : ∀ (d i : Nat), i + d = 210 → ∀ (H : Heap) (locs : List Loc) (ls : Array Slot), dy_R B E s s.heap H locs (dyW D (n + 1) (wvs i)) → lv_has ls 4 [(1, .int (nI i)), (0, .ref (B + x))] → W p l e (dy_rm 4 2 1635) s m args below meth c H locs 2 1635 (dy_Z B E below args s 2 1635 (dyW D (n + 1) (wvs 210))) (F0 m 68 ls []) := by
  intro d
  induction d with
  | zero =>
    intro i hi H locs ls hR hl
    obtain rfl : i = 210 := by omega
    refine lv_iload_n I.1.1 I.1.2.1 dX10_init_68 rfl (lv_at hl 0 rfl) ?_
    refine lv_sipush (v := (210 : Int32)) I.1.1 I.1.2.1 dX10_init_69 (by decide) ?_
    refine lv_icmp_ge (tgt := 125) I.1.1 I.1.2.1 dX10_init_72 (by decide) (fun hc => ?_) (fun hc => absurd (show (210 : Int32) ≤ nI 210 by decide) hc)
    exact dr_ret (d := 0) I hR rfl (Nat.le_refl _) (Nat.le_refl _) dX10_init_125
  | succ d ih =>
    intro i hi H locs ls hR hl
    have hi2 : i < 210 := by omega
    have h6 : i / 6 < 35 := by omega
    refine lv_iload_n I.1.1 I.1.2.1 dX10_init_68 rfl (lv_at hl 0 rfl) ?_
    refine lv_sipush (v := (210 : Int32)) I.1.1 I.1.2.1 dX10_init_69 (by decide) ?_
    refine lv_icmp_ge (tgt := 125) I.1.1 I.1.2.1 dX10_init_72 (by decide) (fun hc => absurd ((geL 210 (by omega) (by decide)).mp hc) (by omega)) (fun hc => ?_)
    refine lv_iload_n I.1.1 I.1.2.1 dX10_init_75 rfl (lv_at hl 0 rfl) ?_
    refine lv_bipush (v := (6 : Int32)) I.1.1 I.1.2.1 dX10_init_76 (by decide) ?_
    refine lv_idiv I.1.1 I.1.2.1 dX10_init_78 (by decide) ?_
    rw [idiv6 i hi2]
    refine lv_istore_n (lv' := [(2, .int (nI (i / 6))), (1, .int (nI i)), (0, .ref (B + x))]) I.1.1 I.1.2.1 dX10_init_79 rfl hl (by decide) rfl (fun ls hl => ?_)
    refine va_ldcS I.1.1 I.1.2.1 I.1.2.2.2.2.1 I.2.2.1.2.2.2.1 dX10_init_80 ?_
    refine lv_iload_n I.1.1 I.1.2.1 dX10_init_82 rfl (lv_at hl 1 rfl) ?_
    refine je_callV (A := fun q : Nat => B ≤ q) (v := some (.int (dby.getD i 0))) (As := [.int (nI i)]) (rest := []) I.1 I.2.2.1 (c_J0ch l B ak av i hi2) jy_J0_charAt_5068e rfl jv_J0_charAt_5068e jk_RX10_49 (vk_recv I.2.2.1.2.2.2.2.1 (by decide) hR.2.2) rfl rfl hl.1 (by decide) (by decide) (by decide) (fun q h => h) hR.2.2 ⟨Nat.le_refl _, Nat.le_refl _⟩ dX10_init_83 (fun H1 locs hS hk => ?_)
    have hR1 : dy_R B E s s.heap H1 locs (dyW D (n + 1) (wvs i)) := ⟨hR.1, hR.2.1.kept (fun k q hq => hk q.1 ((hR.2.1 k q hq).lt)), hS⟩
    refine lv_istore_n (lv' := [(3, .int (dby.getD i 0)), (2, .int (nI (i / 6))), (1, .int (nI i)), (0, .ref (B + x))]) I.1.1 I.1.2.1 dX10_init_86 rfl hl (by decide) rfl (fun ls hl => ?_)
    refine lv_aload_n I.1.1 I.1.2.1 dX10_init_87 rfl (lv_at hl 3 rfl) ?_
    refine dr_getP (x := n + 1) I cf10 fD_RX10_43 hR1 hx hp dX10_init_88 ?_
    refine lv_iload_n I.1.1 I.1.2.1 dX10_init_91 rfl (lv_at hl 1 rfl) ?_
    refine lv_aload_n I.1.1 I.1.2.1 dX10_init_92 rfl (lv_at hl 3 rfl) ?_
    refine dr_getP (x := n + 1) I cf10 fD_RX10_43 hR1 hx hp dX10_init_93 ?_
    refine lv_iload_n I.1.1 I.1.2.1 dX10_init_96 rfl (lv_at hl 1 rfl) ?_
    refine dr_ild (N := 35) I hR1 hw (vp_in_nI h6 (by decide)) dX10_init_97 ?_
    have ev : (dyW D (n + 1) (wvs i)).2.2.1 (n + 1) (nI (i / 6)).toNatClampNeg = wvs i (i / 6) := by
      have e : (dyW D (n + 1) (wvs i)).2.2.1 (n + 1) = wvs i := if_pos rfl
      rw [e, nI_clamp (by omega)]
    rw [ev]
    refine lv_bipush (v := (27 : Int32)) I.1.1 I.1.2.1 dX10_init_98 (by decide) ?_
    refine lv_imul I.1.1 I.1.2.1 dX10_init_100 ?_
    have go : ∀ cc : Int32, cc = wch i → W p l e (dy_rm 4 2 1635) s m args below meth c H1 locs 2 1635 (dy_Z B E below args s 2 1635 (dyW D (n + 1) (wvs 210))) (F0 m 117 ls [.int cc, .int (wvs i (i / 6) * 27), .int (nI (i / 6)), .ref (B + (n + 1))]) := by
      intro cc hcc
      subst hcc
      refine lv_iadd I.1.1 I.1.2.1 dX10_init_117 ?_
      refine dr_ist (N := 35) (D' := dyW D (n + 1) (wvs (i + 1))) I hR1 hw (vp_in_nI h6 (by decide)) (by rw [dyW_I, nI_clamp (by omega)]; rfl) dX10_init_118 (fun H2 locs hR2 => ?_)
      refine lv_iinc (v := nI (i + 1)) (lv' := [(1, .int (nI (i + 1))), (3, .int (dby.getD i 0)), (2, .int (nI (i / 6))), (0, .ref (B + x))]) I.1.1 I.1.2.1 dX10_init_119 hl (k := 2) rfl (by rw [← nI_1]; rfl) (by decide) rfl (fun ls hl => ?_)
      refine lv_goto (tgt := 68) I.1.1 I.1.2.1 dX10_init_122 (by decide) ?_
      exact ih (i + 1) (by omega) H2 locs ls hR2 (lv_sub hl [0, 3] rfl)
    refine lv_iload_n I.1.1 I.1.2.1 dX10_init_101 rfl (lv_at hl 0 rfl) ?_
    refine lv_bipush (v := (32 : Int32)) I.1.1 I.1.2.1 dX10_init_102 (by decide) ?_
    refine lv_icmp_ne (tgt := 111) I.1.1 I.1.2.1 dX10_init_104 (by decide) (fun hc => ?_) (fun hc => ?_)
    · refine lv_iload_n I.1.1 I.1.2.1 dX10_init_111 rfl (lv_at hl 0 rfl) ?_
      refine lv_bipush (v := (97 : Int32)) I.1.1 I.1.2.1 dX10_init_112 (by decide) ?_
      refine lv_isub I.1.1 I.1.2.1 dX10_init_114 ?_
      refine lv_iconst (v := (1 : Int32)) I.1.1 I.1.2.1 dX10_init_115 (by decide) ?_
      refine lv_iadd I.1.1 I.1.2.1 dX10_init_116 ?_
      exact go _ (by unfold wch; rw [if_neg hc])
    · refine lv_iconst (v := (0 : Int32)) I.1.1 I.1.2.1 dX10_init_107 (by decide) ?_
      refine lv_goto (tgt := 117) I.1.1 I.1.2.1 dX10_init_108 (by decide) ?_
      exact go _ (by unfold wch; rw [if_pos hc])

def f_X10_init (x n : Nat) (D : Dp) : Option Dp :=
  kN D n (kO D x 1 10 (le1 (dyN D 2 1600) (fun D1 => le1 (dyP D1 x 0 n) (fun D2 => le1 (dyI D2 x 1 (0 : Int32)) (fun D3 => le1 (dyI D3 x 2 (0 : Int32)) (fun D4 => le1 (dyI D4 x 3 (-1 : Int32)) (fun D5 => le1 (dyI D5 x 4 (0 : Int32)) (fun D6 => le1 (dyI D6 x 5 (0 : Int32)) (fun D7 => le1 (dyI D7 x 6 (0 : Int32)) (fun D8 => le1 (dyI D8 x 7 (0 : Int32)) (fun D9 => le1 (dyI D9 x 8 (0 : Int32)) (fun D10 => le1 (dyI D10 x 9 (0 : Int32)) (fun D11 => le1 (dyN D11 4 35) (fun D12 => le1 (dyP D12 x 10 (n + 1)) (fun D13 => some (dyW D13 (n + 1) (wvs 210)))))))))))))))))
set_option maxHeartbeats 4000000 in
set_option maxRecDepth 100000 in
theorem c_X10_init (l : Launch) (B : Nat) (E : Ev) (ak av : Nat → Nat) (x n : Nat) (D r : Dp) (h : f_X10_init x n D = some r) : dy_M l B E ak av yX10_init cX10_init 4 4 2 1635 [.ref (B + x)] n D r := by
  refine dy_in (by decide) rfl (Nat.le_of_ble_eq_true rfl) ?_
  intro p e s m args below meth c I hR ls hl
  have I : dy_I p s m args meth c RX10 cX10_init 4 B n ak av := I
  have hl : lv_has ls 4 [(0, .ref (B + x))] := hl
  unfold f_X10_init at h
  obtain ⟨hn, h⟩ := kN_ok h
  obtain ⟨hx, h⟩ := kO_ok h
  refine lv_aload_n I.1.1 I.1.2.1 dX10_init_0 rfl (lv_at hl 0 rfl) ?_
  refine dr_obj I wo_RX10 wO_in wO_co hl.1 (by decide) dX10_init_1 ?_
  refine lv_aload_n I.1.1 I.1.2.1 dX10_init_4 rfl (lv_at hl 0 rfl) ?_
  refine lv_sipush (v := (1600 : Int32)) I.1.1 I.1.2.1 dX10_init_5 (by decide) ?_
  obtain ⟨D1, e1, h⟩ := le1_ok h
  refine dr_newB (N := 1600) I wA_byte (by decide) rfl (by decide) hR hn (by omega) (Nat.zero_lt_of_lt hx.1) e1 (Nat.le_of_ble_eq_true rfl) (Nat.le_of_ble_eq_true rfl) dX10_init_8 (fun H hR => ?_)
  replace hx := dr_oN hx e1
  replace hn := tq_N hn e1
  refine W.widen (k := 1) (n := 1600) (Nat.le_of_ble_eq_true rfl) (Nat.le_of_ble_eq_true rfl) ?_
  obtain ⟨D2, e2, h⟩ := le1_ok h
  refine dr_putP (fun _ => ⟨rfl, rfl⟩) I cf10 fD_RX10_9 hR hx e2 dX10_init_10 (fun H locs hR => ?_)
  replace hn := (tq_P e2).1.trans hn
  replace hx := dr_o hx (tq_P e2).1 (tq_P e2).2
  refine lv_aload_n I.1.1 I.1.2.1 dX10_init_13 rfl (lv_at hl 0 rfl) ?_
  refine lv_iconst (v := (0 : Int32)) I.1.1 I.1.2.1 dX10_init_14 (by decide) ?_
  obtain ⟨D3, e3, h⟩ := le1_ok h
  refine dr_putI I cf10 fD_RX10_15 hR hx e3 dX10_init_15 (fun H locs hR => ?_)
  replace hn := (tq_I e3).1.trans hn
  replace hx := dr_o hx (tq_I e3).1 (tq_I e3).2
  refine lv_aload_n I.1.1 I.1.2.1 dX10_init_18 rfl (lv_at hl 0 rfl) ?_
  refine lv_iconst (v := (0 : Int32)) I.1.1 I.1.2.1 dX10_init_19 (by decide) ?_
  obtain ⟨D4, e4, h⟩ := le1_ok h
  refine dr_putI I cf10 fD_RX10_19 hR hx e4 dX10_init_20 (fun H locs hR => ?_)
  replace hn := (tq_I e4).1.trans hn
  replace hx := dr_o hx (tq_I e4).1 (tq_I e4).2
  refine lv_aload_n I.1.1 I.1.2.1 dX10_init_23 rfl (lv_at hl 0 rfl) ?_
  refine lv_iconst (v := (-1 : Int32)) I.1.1 I.1.2.1 dX10_init_24 (by decide) ?_
  obtain ⟨D5, e5, h⟩ := le1_ok h
  refine dr_putI I cf10 fD_RX10_22 hR hx e5 dX10_init_25 (fun H locs hR => ?_)
  replace hn := (tq_I e5).1.trans hn
  replace hx := dr_o hx (tq_I e5).1 (tq_I e5).2
  refine lv_aload_n I.1.1 I.1.2.1 dX10_init_28 rfl (lv_at hl 0 rfl) ?_
  refine lv_iconst (v := (0 : Int32)) I.1.1 I.1.2.1 dX10_init_29 (by decide) ?_
  obtain ⟨D6, e6, h⟩ := le1_ok h
  refine dr_putI I cf10 fD_RX10_25 hR hx e6 dX10_init_30 (fun H locs hR => ?_)
  replace hn := (tq_I e6).1.trans hn
  replace hx := dr_o hx (tq_I e6).1 (tq_I e6).2
  refine lv_aload_n I.1.1 I.1.2.1 dX10_init_33 rfl (lv_at hl 0 rfl) ?_
  refine lv_iconst (v := (0 : Int32)) I.1.1 I.1.2.1 dX10_init_34 (by decide) ?_
  obtain ⟨D7, e7, h⟩ := le1_ok h
  refine dr_putI I cf10 fD_RX10_28 hR hx e7 dX10_init_35 (fun H locs hR => ?_)
  replace hn := (tq_I e7).1.trans hn
  replace hx := dr_o hx (tq_I e7).1 (tq_I e7).2
  refine lv_aload_n I.1.1 I.1.2.1 dX10_init_38 rfl (lv_at hl 0 rfl) ?_
  refine lv_iconst (v := (0 : Int32)) I.1.1 I.1.2.1 dX10_init_39 (by decide) ?_
  obtain ⟨D8, e8, h⟩ := le1_ok h
  refine dr_putI I cf10 fD_RX10_31 hR hx e8 dX10_init_40 (fun H locs hR => ?_)
  replace hn := (tq_I e8).1.trans hn
  replace hx := dr_o hx (tq_I e8).1 (tq_I e8).2
  refine lv_aload_n I.1.1 I.1.2.1 dX10_init_43 rfl (lv_at hl 0 rfl) ?_
  refine lv_iconst (v := (0 : Int32)) I.1.1 I.1.2.1 dX10_init_44 (by decide) ?_
  obtain ⟨D9, e9, h⟩ := le1_ok h
  refine dr_putI I cf10 fD_RX10_34 hR hx e9 dX10_init_45 (fun H locs hR => ?_)
  replace hn := (tq_I e9).1.trans hn
  replace hx := dr_o hx (tq_I e9).1 (tq_I e9).2
  refine lv_aload_n I.1.1 I.1.2.1 dX10_init_48 rfl (lv_at hl 0 rfl) ?_
  refine lv_iconst (v := (0 : Int32)) I.1.1 I.1.2.1 dX10_init_49 (by decide) ?_
  obtain ⟨D10, e10, h⟩ := le1_ok h
  refine dr_putI I cf10 fD_RX10_37 hR hx e10 dX10_init_50 (fun H locs hR => ?_)
  replace hn := (tq_I e10).1.trans hn
  replace hx := dr_o hx (tq_I e10).1 (tq_I e10).2
  refine lv_aload_n I.1.1 I.1.2.1 dX10_init_53 rfl (lv_at hl 0 rfl) ?_
  refine lv_iconst (v := (0 : Int32)) I.1.1 I.1.2.1 dX10_init_54 (by decide) ?_
  obtain ⟨D11, e11, h⟩ := le1_ok h
  refine dr_putI I cf10 fD_RX10_40 hR hx e11 dX10_init_55 (fun H locs hR => ?_)
  replace hn := (tq_I e11).1.trans hn
  replace hx := dr_o hx (tq_I e11).1 (tq_I e11).2
  refine lv_aload_n I.1.1 I.1.2.1 dX10_init_58 rfl (lv_at hl 0 rfl) ?_
  refine lv_bipush (v := (35 : Int32)) I.1.1 I.1.2.1 dX10_init_59 (by decide) ?_
  obtain ⟨D12, e12, h⟩ := le1_ok h
  have hn12 := hn
  refine dr_newI (N := 35) I wA_int (by decide) rfl (by decide) hR hn (by omega) (Nat.zero_lt_of_lt hx.1) e12 (Nat.le_of_ble_eq_true rfl) (Nat.le_of_ble_eq_true rfl) dX10_init_61 (fun H hR => ?_)
  replace hx := dr_oN hx e12
  have hv12 := dr_new1 hn e12
  replace hn := tq_N hn e12
  refine W.widen (k := 2) (n := 1635) (Nat.le_of_ble_eq_true rfl) (Nat.le_of_ble_eq_true rfl) ?_
  obtain ⟨D13, e13, h⟩ := le1_ok h
  refine dr_putP (fun _ => ⟨rfl, rfl⟩) I cf10 fD_RX10_43 hR hx e13 dX10_init_63 (fun H locs hR => ?_)
  replace hn := (tq_P e13).1.trans hn
  replace hx := dr_o hx (tq_P e13).1 (tq_P e13).2
  refine lv_iconst (v := (0 : Int32)) I.1.1 I.1.2.1 dX10_init_66 (by decide) ?_
  refine lv_istore_n (lv' := [(1, .int (0 : Int32)), (0, .ref (B + x))]) I.1.1 I.1.2.1 dX10_init_67 rfl hl (by decide) rfl (fun ls hl => ?_)
  have ez : D13.2.2.1 (n + 1) = wvs 0 := by
    rw [e13, e12]
    exact if_pos hn12.symm
  have hw : n + 1 < D13.1 ∧ D13.2.1 (n + 1) = (4, 35) := dr_o (dr_new1 hn12 e12) (tq_P e13).1 (tq_P e13).2
  have hp : D13.2.2.2.2 x 10 = some (n + 1) := by
    rw [e13]
    show (if x = x then va_up (D12.2.2.2.2 x) 10 (some (n + 1)) else _) 10 = _
    rw [if_pos rfl]
    exact if_pos rfl
  have hW := w_X10_68 (l := l) (e := e) (below := below) (E := E) I D13 hx hw hp 210 0 rfl H locs ls (by rw [← ez, dyW_0]; exact hR) hl
  obtain rfl := Option.some.inj h
  exact hW
