/-! level 3: the small constructors -/
theorem dX9_init_0 : decode cX9_init 0 = .ok (.aload_n 0, 1) := by decide +kernel
theorem dX9_init_1 : decode cX9_init 1 = .ok (.invokespecial 3, 3) := by decide +kernel
theorem dX9_init_4 : decode cX9_init 4 = .ok (.aload_n 0, 1) := by decide +kernel
theorem dX9_init_5 : decode cX9_init 5 = .ok (.iconst 0, 1) := by decide +kernel
theorem dX9_init_6 : decode cX9_init 6 = .ok (.putfield 9, 3) := by decide +kernel
theorem dX9_init_9 : decode cX9_init 9 = .ok (.aload_n 0, 1) := by decide +kernel
theorem dX9_init_10 : decode cX9_init 10 = .ok (.iconst 0, 1) := by decide +kernel
theorem dX9_init_11 : decode cX9_init 11 = .ok (.putfield 15, 3) := by decide +kernel
theorem dX9_init_14 : decode cX9_init 14 = .ok (.aload_n 0, 1) := by decide +kernel
theorem dX9_init_15 : decode cX9_init 15 = .ok (.iconst 0, 1) := by decide +kernel
theorem dX9_init_16 : decode cX9_init 16 = .ok (.putfield 18, 3) := by decide +kernel
theorem dX9_init_19 : decode cX9_init 19 = .ok (.aload_n 0, 1) := by decide +kernel
theorem dX9_init_20 : decode cX9_init 20 = .ok (.bipush 6, 2) := by decide +kernel
theorem dX9_init_22 : decode cX9_init 22 = .ok (.newarray .int, 2) := by decide +kernel
theorem dX9_init_24 : decode cX9_init 24 = .ok (.putfield 21, 3) := by decide +kernel
theorem dX9_init_27 : decode cX9_init 27 = .ok (.aload_n 0, 1) := by decide +kernel
theorem dX9_init_28 : decode cX9_init 28 = .ok (.bipush 6, 2) := by decide +kernel
theorem dX9_init_30 : decode cX9_init 30 = .ok (.newarray .int, 2) := by decide +kernel
theorem dX9_init_32 : decode cX9_init 32 = .ok (.putfield 25, 3) := by decide +kernel
theorem dX9_init_35 : decode cX9_init 35 = .ok (.aload_n 0, 1) := by decide +kernel
theorem dX9_init_36 : decode cX9_init 36 = .ok (.bipush 6, 2) := by decide +kernel
theorem dX9_init_38 : decode cX9_init 38 = .ok (.newarray .int, 2) := by decide +kernel
theorem dX9_init_40 : decode cX9_init 40 = .ok (.putfield 28, 3) := by decide +kernel
theorem dX9_init_43 : decode cX9_init 43 = .ok (.aload_n 0, 1) := by decide +kernel
theorem dX9_init_44 : decode cX9_init 44 = .ok (.iconst 5, 1) := by decide +kernel
theorem dX9_init_45 : decode cX9_init 45 = .ok (.newarray .int, 2) := by decide +kernel
theorem dX9_init_47 : decode cX9_init 47 = .ok (.putfield 31, 3) := by decide +kernel
theorem dX9_init_50 : decode cX9_init 50 = .ok (.aload_n 0, 1) := by decide +kernel
theorem dX9_init_51 : decode cX9_init 51 = .ok (.iconst 0, 1) := by decide +kernel
theorem dX9_init_52 : decode cX9_init 52 = .ok (.putfield 34, 3) := by decide +kernel
theorem dX9_init_55 : decode cX9_init 55 = .ok (.aload_n 0, 1) := by decide +kernel
theorem dX9_init_56 : decode cX9_init 56 = .ok (.bipush 90, 2) := by decide +kernel
theorem dX9_init_58 : decode cX9_init 58 = .ok (.newarray .int, 2) := by decide +kernel
theorem dX9_init_60 : decode cX9_init 60 = .ok (.putfield 37, 3) := by decide +kernel
theorem dX9_init_63 : decode cX9_init 63 = .ok (.return_, 1) := by decide +kernel
def f_X9_init (x n : Nat) (D : Dp) : Option Dp :=
  kN D n (kO D x 1 9 (le1 (dyI D x 0 (0 : Int32)) (fun D1 => le1 (dyI D1 x 1 (0 : Int32)) (fun D2 => le1 (dyI D2 x 2 (0 : Int32)) (fun D3 => le1 (dyN D3 4 6) (fun D4 => le1 (dyP D4 x 3 n) (fun D5 => le1 (dyN D5 4 6) (fun D6 => le1 (dyP D6 x 4 (n + 1)) (fun D7 => le1 (dyN D7 4 6) (fun D8 => le1 (dyP D8 x 5 (n + 2)) (fun D9 => le1 (dyN D9 4 5) (fun D10 => le1 (dyP D10 x 6 (n + 3)) (fun D11 => le1 (dyI D11 x 7 (0 : Int32)) (fun D12 => le1 (dyN D12 4 90) (fun D13 => le1 (dyP D13 x 8 (n + 4)) (fun D14 => some D14))))))))))))))))
set_option maxHeartbeats 4000000 in
set_option maxRecDepth 100000 in
theorem c_X9_init (l : Launch) (B : Nat) (E : Ev) (ak av : Nat → Nat) (x n : Nat) (D r : Dp) (h : f_X9_init x n D = some r) : dy_M l B E ak av yX9_init cX9_init 1 1 5 113 [.ref (B + x)] n D r := by
  refine dy_in (by decide) rfl (Nat.le_of_ble_eq_true rfl) ?_
  intro p e s m args below meth c I hR ls hl
  have I : dy_I p s m args meth c RX9 cX9_init 1 B n ak av := I
  have hl : lv_has ls 1 [(0, .ref (B + x))] := hl
  unfold f_X9_init at h
  obtain ⟨hn, h⟩ := kN_ok h
  obtain ⟨hx, h⟩ := kO_ok h
  refine lv_aload_n I.1.1 I.1.2.1 dX9_init_0 rfl (lv_at hl 0 rfl) ?_
  refine dr_obj I wo_RX9 wO_in wO_co hl.1 (by decide) dX9_init_1 ?_
  refine lv_aload_n I.1.1 I.1.2.1 dX9_init_4 rfl (lv_at hl 0 rfl) ?_
  refine lv_iconst (v := (0 : Int32)) I.1.1 I.1.2.1 dX9_init_5 (by decide) ?_
  obtain ⟨D1, e1, h⟩ := le1_ok h
  refine dr_putI I cf9 fD_RX9_9 hR hx e1 dX9_init_6 (fun H locs hR => ?_)
  replace hn := (tq_I e1).1.trans hn
  replace hx := dr_o hx (tq_I e1).1 (tq_I e1).2
  refine lv_aload_n I.1.1 I.1.2.1 dX9_init_9 rfl (lv_at hl 0 rfl) ?_
  refine lv_iconst (v := (0 : Int32)) I.1.1 I.1.2.1 dX9_init_10 (by decide) ?_
  obtain ⟨D2, e2, h⟩ := le1_ok h
  refine dr_putI I cf9 fD_RX9_15 hR hx e2 dX9_init_11 (fun H locs hR => ?_)
  replace hn := (tq_I e2).1.trans hn
  replace hx := dr_o hx (tq_I e2).1 (tq_I e2).2
  refine lv_aload_n I.1.1 I.1.2.1 dX9_init_14 rfl (lv_at hl 0 rfl) ?_
  refine lv_iconst (v := (0 : Int32)) I.1.1 I.1.2.1 dX9_init_15 (by decide) ?_
  obtain ⟨D3, e3, h⟩ := le1_ok h
  refine dr_putI I cf9 fD_RX9_18 hR hx e3 dX9_init_16 (fun H locs hR => ?_)
  replace hn := (tq_I e3).1.trans hn
  replace hx := dr_o hx (tq_I e3).1 (tq_I e3).2
  refine lv_aload_n I.1.1 I.1.2.1 dX9_init_19 rfl (lv_at hl 0 rfl) ?_
  refine lv_bipush (v := (6 : Int32)) I.1.1 I.1.2.1 dX9_init_20 (by decide) ?_
  obtain ⟨D4, e4, h⟩ := le1_ok h
  refine dr_newI (N := 6) I wA_int (by decide) rfl (by decide) hR hn (by omega) (Nat.zero_lt_of_lt hx.1) e4 (Nat.le_of_ble_eq_true rfl) (Nat.le_of_ble_eq_true rfl) dX9_init_22 (fun H hR => ?_)
  replace hx := dr_oN hx e4
  have hv4 := dr_new1 hn e4
  replace hn := tq_N hn e4
  refine W.widen (k := 1) (n := 6) (Nat.le_of_ble_eq_true rfl) (Nat.le_of_ble_eq_true rfl) ?_
  obtain ⟨D5, e5, h⟩ := le1_ok h
  refine dr_putP (fun _ => ⟨rfl, rfl⟩) I cf9 fD_RX9_21 hR hx e5 dX9_init_24 (fun H locs hR => ?_)
  replace hn := (tq_P e5).1.trans hn
  replace hx := dr_o hx (tq_P e5).1 (tq_P e5).2
  refine lv_aload_n I.1.1 I.1.2.1 dX9_init_27 rfl (lv_at hl 0 rfl) ?_
  refine lv_bipush (v := (6 : Int32)) I.1.1 I.1.2.1 dX9_init_28 (by decide) ?_
  obtain ⟨D6, e6, h⟩ := le1_ok h
  refine dr_newI (N := 6) I wA_int (by decide) rfl (by decide) hR hn (by omega) (Nat.zero_lt_of_lt hx.1) e6 (Nat.le_of_ble_eq_true rfl) (Nat.le_of_ble_eq_true rfl) dX9_init_30 (fun H hR => ?_)
  replace hx := dr_oN hx e6
  have hv6 := dr_new1 hn e6
  replace hn := tq_N hn e6
  refine W.widen (k := 2) (n := 12) (Nat.le_of_ble_eq_true rfl) (Nat.le_of_ble_eq_true rfl) ?_
  obtain ⟨D7, e7, h⟩ := le1_ok h
  refine dr_putP (fun _ => ⟨rfl, rfl⟩) I cf9 fD_RX9_25 hR hx e7 dX9_init_32 (fun H locs hR => ?_)
  replace hn := (tq_P e7).1.trans hn
  replace hx := dr_o hx (tq_P e7).1 (tq_P e7).2
  refine lv_aload_n I.1.1 I.1.2.1 dX9_init_35 rfl (lv_at hl 0 rfl) ?_
  refine lv_bipush (v := (6 : Int32)) I.1.1 I.1.2.1 dX9_init_36 (by decide) ?_
  obtain ⟨D8, e8, h⟩ := le1_ok h
  refine dr_newI (N := 6) I wA_int (by decide) rfl (by decide) hR hn (by omega) (Nat.zero_lt_of_lt hx.1) e8 (Nat.le_of_ble_eq_true rfl) (Nat.le_of_ble_eq_true rfl) dX9_init_38 (fun H hR => ?_)
  replace hx := dr_oN hx e8
  have hv8 := dr_new1 hn e8
  replace hn := tq_N hn e8
  refine W.widen (k := 3) (n := 18) (Nat.le_of_ble_eq_true rfl) (Nat.le_of_ble_eq_true rfl) ?_
  obtain ⟨D9, e9, h⟩ := le1_ok h
  refine dr_putP (fun _ => ⟨rfl, rfl⟩) I cf9 fD_RX9_28 hR hx e9 dX9_init_40 (fun H locs hR => ?_)
  replace hn := (tq_P e9).1.trans hn
  replace hx := dr_o hx (tq_P e9).1 (tq_P e9).2
  refine lv_aload_n I.1.1 I.1.2.1 dX9_init_43 rfl (lv_at hl 0 rfl) ?_
  refine lv_iconst (v := (5 : Int32)) I.1.1 I.1.2.1 dX9_init_44 (by decide) ?_
  obtain ⟨D10, e10, h⟩ := le1_ok h
  refine dr_newI (N := 5) I wA_int (by decide) rfl (by decide) hR hn (by omega) (Nat.zero_lt_of_lt hx.1) e10 (Nat.le_of_ble_eq_true rfl) (Nat.le_of_ble_eq_true rfl) dX9_init_45 (fun H hR => ?_)
  replace hx := dr_oN hx e10
  have hv10 := dr_new1 hn e10
  replace hn := tq_N hn e10
  refine W.widen (k := 4) (n := 23) (Nat.le_of_ble_eq_true rfl) (Nat.le_of_ble_eq_true rfl) ?_
  obtain ⟨D11, e11, h⟩ := le1_ok h
  refine dr_putP (fun _ => ⟨rfl, rfl⟩) I cf9 fD_RX9_31 hR hx e11 dX9_init_47 (fun H locs hR => ?_)
  replace hn := (tq_P e11).1.trans hn
  replace hx := dr_o hx (tq_P e11).1 (tq_P e11).2
  refine lv_aload_n I.1.1 I.1.2.1 dX9_init_50 rfl (lv_at hl 0 rfl) ?_
  refine lv_iconst (v := (0 : Int32)) I.1.1 I.1.2.1 dX9_init_51 (by decide) ?_
  obtain ⟨D12, e12, h⟩ := le1_ok h
  refine dr_putI I cf9 fD_RX9_34 hR hx e12 dX9_init_52 (fun H locs hR => ?_)
  replace hn := (tq_I e12).1.trans hn
  replace hx := dr_o hx (tq_I e12).1 (tq_I e12).2
  refine lv_aload_n I.1.1 I.1.2.1 dX9_init_55 rfl (lv_at hl 0 rfl) ?_
  refine lv_bipush (v := (90 : Int32)) I.1.1 I.1.2.1 dX9_init_56 (by decide) ?_
  obtain ⟨D13, e13, h⟩ := le1_ok h
  refine dr_newI (N := 90) I wA_int (by decide) rfl (by decide) hR hn (by omega) (Nat.zero_lt_of_lt hx.1) e13 (Nat.le_of_ble_eq_true rfl) (Nat.le_of_ble_eq_true rfl) dX9_init_58 (fun H hR => ?_)
  replace hx := dr_oN hx e13
  have hv13 := dr_new1 hn e13
  replace hn := tq_N hn e13
  refine W.widen (k := 5) (n := 113) (Nat.le_of_ble_eq_true rfl) (Nat.le_of_ble_eq_true rfl) ?_
  obtain ⟨D14, e14, h⟩ := le1_ok h
  refine dr_putP (fun _ => ⟨rfl, rfl⟩) I cf9 fD_RX9_37 hR hx e14 dX9_init_60 (fun H locs hR => ?_)
  replace hn := (tq_P e14).1.trans hn
  replace hx := dr_o hx (tq_P e14).1 (tq_P e14).2
  exact dr_ret (d := 0) I hR h (Nat.le_of_ble_eq_true rfl) (Nat.le_of_ble_eq_true rfl) dX9_init_63
theorem dX4_init_0 : decode cX4_init 0 = .ok (.aload_n 0, 1) := by decide +kernel
theorem dX4_init_1 : decode cX4_init 1 = .ok (.invokespecial 5, 3) := by decide +kernel
theorem dX4_init_4 : decode cX4_init 4 = .ok (.aload_n 0, 1) := by decide +kernel
theorem dX4_init_5 : decode cX4_init 5 = .ok (.sipush 1600, 3) := by decide +kernel
theorem dX4_init_8 : decode cX4_init 8 = .ok (.newarray .int, 2) := by decide +kernel
theorem dX4_init_10 : decode cX4_init 10 = .ok (.putfield 11, 3) := by decide +kernel
theorem dX4_init_13 : decode cX4_init 13 = .ok (.aload_n 0, 1) := by decide +kernel
theorem dX4_init_14 : decode cX4_init 14 = .ok (.bipush 64, 2) := by decide +kernel
theorem dX4_init_16 : decode cX4_init 16 = .ok (.newarray .int, 2) := by decide +kernel
theorem dX4_init_18 : decode cX4_init 18 = .ok (.putfield 17, 3) := by decide +kernel
theorem dX4_init_21 : decode cX4_init 21 = .ok (.aload_n 0, 1) := by decide +kernel
theorem dX4_init_22 : decode cX4_init 22 = .ok (.iconst 0, 1) := by decide +kernel
theorem dX4_init_23 : decode cX4_init 23 = .ok (.putfield 20, 3) := by decide +kernel
theorem dX4_init_26 : decode cX4_init 26 = .ok (.return_, 1) := by decide +kernel
def f_X4_init (x n : Nat) (D : Dp) : Option Dp :=
  kN D n (kO D x 1 4 (le1 (dyN D 4 1600) (fun D1 => le1 (dyP D1 x 0 n) (fun D2 => le1 (dyN D2 4 64) (fun D3 => le1 (dyP D3 x 1 (n + 1)) (fun D4 => le1 (dyI D4 x 2 (0 : Int32)) (fun D5 => some D5)))))))
set_option maxHeartbeats 4000000 in
set_option maxRecDepth 100000 in
theorem c_X4_init (l : Launch) (B : Nat) (E : Ev) (ak av : Nat → Nat) (x n : Nat) (D r : Dp) (h : f_X4_init x n D = some r) : dy_M l B E ak av yX4_init cX4_init 1 1 2 1664 [.ref (B + x)] n D r := by
  refine dy_in (by decide) rfl (Nat.le_of_ble_eq_true rfl) ?_
  intro p e s m args below meth c I hR ls hl
  have I : dy_I p s m args meth c RX4 cX4_init 1 B n ak av := I
  have hl : lv_has ls 1 [(0, .ref (B + x))] := hl
  unfold f_X4_init at h
  obtain ⟨hn, h⟩ := kN_ok h
  obtain ⟨hx, h⟩ := kO_ok h
  refine lv_aload_n I.1.1 I.1.2.1 dX4_init_0 rfl (lv_at hl 0 rfl) ?_
  refine dr_obj I wo_RX4 wO_in wO_co hl.1 (by decide) dX4_init_1 ?_
  refine lv_aload_n I.1.1 I.1.2.1 dX4_init_4 rfl (lv_at hl 0 rfl) ?_
  refine lv_sipush (v := (1600 : Int32)) I.1.1 I.1.2.1 dX4_init_5 (by decide) ?_
  obtain ⟨D1, e1, h⟩ := le1_ok h
  refine dr_newI (N := 1600) I wA_int (by decide) rfl (by decide) hR hn (by omega) (Nat.zero_lt_of_lt hx.1) e1 (Nat.le_of_ble_eq_true rfl) (Nat.le_of_ble_eq_true rfl) dX4_init_8 (fun H hR => ?_)
  replace hx := dr_oN hx e1
  have hv1 := dr_new1 hn e1
  replace hn := tq_N hn e1
  refine W.widen (k := 1) (n := 1600) (Nat.le_of_ble_eq_true rfl) (Nat.le_of_ble_eq_true rfl) ?_
  obtain ⟨D2, e2, h⟩ := le1_ok h
  refine dr_putP (fun _ => ⟨rfl, rfl⟩) I cf4 fD_RX4_11 hR hx e2 dX4_init_10 (fun H locs hR => ?_)
  replace hn := (tq_P e2).1.trans hn
  replace hx := dr_o hx (tq_P e2).1 (tq_P e2).2
  refine lv_aload_n I.1.1 I.1.2.1 dX4_init_13 rfl (lv_at hl 0 rfl) ?_
  refine lv_bipush (v := (64 : Int32)) I.1.1 I.1.2.1 dX4_init_14 (by decide) ?_
  obtain ⟨D3, e3, h⟩ := le1_ok h
  refine dr_newI (N := 64) I wA_int (by decide) rfl (by decide) hR hn (by omega) (Nat.zero_lt_of_lt hx.1) e3 (Nat.le_of_ble_eq_true rfl) (Nat.le_of_ble_eq_true rfl) dX4_init_16 (fun H hR => ?_)
  replace hx := dr_oN hx e3
  have hv3 := dr_new1 hn e3
  replace hn := tq_N hn e3
  refine W.widen (k := 2) (n := 1664) (Nat.le_of_ble_eq_true rfl) (Nat.le_of_ble_eq_true rfl) ?_
  obtain ⟨D4, e4, h⟩ := le1_ok h
  refine dr_putP (fun _ => ⟨rfl, rfl⟩) I cf4 fD_RX4_17 hR hx e4 dX4_init_18 (fun H locs hR => ?_)
  replace hn := (tq_P e4).1.trans hn
  replace hx := dr_o hx (tq_P e4).1 (tq_P e4).2
  refine lv_aload_n I.1.1 I.1.2.1 dX4_init_21 rfl (lv_at hl 0 rfl) ?_
  refine lv_iconst (v := (0 : Int32)) I.1.1 I.1.2.1 dX4_init_22 (by decide) ?_
  obtain ⟨D5, e5, h⟩ := le1_ok h
  refine dr_putI I cf4 fD_RX4_20 hR hx e5 dX4_init_23 (fun H locs hR => ?_)
  replace hn := (tq_I e5).1.trans hn
  replace hx := dr_o hx (tq_I e5).1 (tq_I e5).2
  exact dr_ret (d := 0) I hR h (Nat.le_of_ble_eq_true rfl) (Nat.le_of_ble_eq_true rfl) dX4_init_26
theorem dX5_init_0 : decode cX5_init 0 = .ok (.aload_n 0, 1) := by decide +kernel
theorem dX5_init_1 : decode cX5_init 1 = .ok (.invokespecial 3, 3) := by decide +kernel
theorem dX5_init_4 : decode cX5_init 4 = .ok (.aload_n 0, 1) := by decide +kernel
theorem dX5_init_5 : decode cX5_init 5 = .ok (.bipush 48, 2) := by decide +kernel
theorem dX5_init_7 : decode cX5_init 7 = .ok (.newarray .int, 2) := by decide +kernel
theorem dX5_init_9 : decode cX5_init 9 = .ok (.putfield 11, 3) := by decide +kernel
theorem dX5_init_12 : decode cX5_init 12 = .ok (.aload_n 0, 1) := by decide +kernel
theorem dX5_init_13 : decode cX5_init 13 = .ok (.iconst 0, 1) := by decide +kernel
theorem dX5_init_14 : decode cX5_init 14 = .ok (.putfield 15, 3) := by decide +kernel
theorem dX5_init_17 : decode cX5_init 17 = .ok (.aload_n 0, 1) := by decide +kernel
theorem dX5_init_18 : decode cX5_init 18 = .ok (.iconst 0, 1) := by decide +kernel
theorem dX5_init_19 : decode cX5_init 19 = .ok (.putfield 19, 3) := by decide +kernel
theorem dX5_init_22 : decode cX5_init 22 = .ok (.return_, 1) := by decide +kernel
def f_X5_init (x n : Nat) (D : Dp) : Option Dp :=
  kN D n (kO D x 1 5 (le1 (dyN D 4 48) (fun D1 => le1 (dyP D1 x 0 n) (fun D2 => le1 (dyI D2 x 1 (0 : Int32)) (fun D3 => le1 (dyI D3 x 2 (0 : Int32)) (fun D4 => some D4))))))
set_option maxHeartbeats 4000000 in
set_option maxRecDepth 100000 in
theorem c_X5_init (l : Launch) (B : Nat) (E : Ev) (ak av : Nat → Nat) (x n : Nat) (D r : Dp) (h : f_X5_init x n D = some r) : dy_M l B E ak av yX5_init cX5_init 1 1 1 48 [.ref (B + x)] n D r := by
  refine dy_in (by decide) rfl (Nat.le_of_ble_eq_true rfl) ?_
  intro p e s m args below meth c I hR ls hl
  have I : dy_I p s m args meth c RX5 cX5_init 1 B n ak av := I
  have hl : lv_has ls 1 [(0, .ref (B + x))] := hl
  unfold f_X5_init at h
  obtain ⟨hn, h⟩ := kN_ok h
  obtain ⟨hx, h⟩ := kO_ok h
  refine lv_aload_n I.1.1 I.1.2.1 dX5_init_0 rfl (lv_at hl 0 rfl) ?_
  refine dr_obj I wo_RX5 wO_in wO_co hl.1 (by decide) dX5_init_1 ?_
  refine lv_aload_n I.1.1 I.1.2.1 dX5_init_4 rfl (lv_at hl 0 rfl) ?_
  refine lv_bipush (v := (48 : Int32)) I.1.1 I.1.2.1 dX5_init_5 (by decide) ?_
  obtain ⟨D1, e1, h⟩ := le1_ok h
  refine dr_newI (N := 48) I wA_int (by decide) rfl (by decide) hR hn (by omega) (Nat.zero_lt_of_lt hx.1) e1 (Nat.le_of_ble_eq_true rfl) (Nat.le_of_ble_eq_true rfl) dX5_init_7 (fun H hR => ?_)
  replace hx := dr_oN hx e1
  have hv1 := dr_new1 hn e1
  replace hn := tq_N hn e1
  refine W.widen (k := 1) (n := 48) (Nat.le_of_ble_eq_true rfl) (Nat.le_of_ble_eq_true rfl) ?_
  obtain ⟨D2, e2, h⟩ := le1_ok h
  refine dr_putP (fun _ => ⟨rfl, rfl⟩) I cf5 fD_RX5_11 hR hx e2 dX5_init_9 (fun H locs hR => ?_)
  replace hn := (tq_P e2).1.trans hn
  replace hx := dr_o hx (tq_P e2).1 (tq_P e2).2
  refine lv_aload_n I.1.1 I.1.2.1 dX5_init_12 rfl (lv_at hl 0 rfl) ?_
  refine lv_iconst (v := (0 : Int32)) I.1.1 I.1.2.1 dX5_init_13 (by decide) ?_
  obtain ⟨D3, e3, h⟩ := le1_ok h
  refine dr_putI I cf5 fD_RX5_15 hR hx e3 dX5_init_14 (fun H locs hR => ?_)
  replace hn := (tq_I e3).1.trans hn
  replace hx := dr_o hx (tq_I e3).1 (tq_I e3).2
  refine lv_aload_n I.1.1 I.1.2.1 dX5_init_17 rfl (lv_at hl 0 rfl) ?_
  refine lv_iconst (v := (0 : Int32)) I.1.1 I.1.2.1 dX5_init_18 (by decide) ?_
  obtain ⟨D4, e4, h⟩ := le1_ok h
  refine dr_putI I cf5 fD_RX5_19 hR hx e4 dX5_init_19 (fun H locs hR => ?_)
  replace hn := (tq_I e4).1.trans hn
  replace hx := dr_o hx (tq_I e4).1 (tq_I e4).2
  exact dr_ret (d := 0) I hR h (Nat.le_of_ble_eq_true rfl) (Nat.le_of_ble_eq_true rfl) dX5_init_22
theorem dX7_init_0 : decode cX7_init 0 = .ok (.aload_n 0, 1) := by decide +kernel
theorem dX7_init_1 : decode cX7_init 1 = .ok (.invokespecial 3, 3) := by decide +kernel
theorem dX7_init_4 : decode cX7_init 4 = .ok (.aload_n 0, 1) := by decide +kernel
theorem dX7_init_5 : decode cX7_init 5 = .ok (.iconst 0, 1) := by decide +kernel
theorem dX7_init_6 : decode cX7_init 6 = .ok (.putfield 9, 3) := by decide +kernel
theorem dX7_init_9 : decode cX7_init 9 = .ok (.aload_n 0, 1) := by decide +kernel
theorem dX7_init_10 : decode cX7_init 10 = .ok (.aload_n 1, 1) := by decide +kernel
theorem dX7_init_11 : decode cX7_init 11 = .ok (.putfield 15, 3) := by decide +kernel
theorem dX7_init_14 : decode cX7_init 14 = .ok (.aload_n 0, 1) := by decide +kernel
theorem dX7_init_15 : decode cX7_init 15 = .ok (.aload_n 2, 1) := by decide +kernel
theorem dX7_init_16 : decode cX7_init 16 = .ok (.putfield 19, 3) := by decide +kernel
theorem dX7_init_19 : decode cX7_init 19 = .ok (.return_, 1) := by decide +kernel
def f_X7_init (x n y1 y2 : Nat) (D : Dp) : Option Dp :=
  kN D n (kO D x 1 7 (le1 (dyI D x 2 (0 : Int32)) (fun D1 => le1 (dyP D1 x 0 y1) (fun D2 => le1 (dyP D2 x 1 y2) (fun D3 => some D3)))))
set_option maxHeartbeats 4000000 in
set_option maxRecDepth 100000 in
theorem c_X7_init (l : Launch) (B : Nat) (E : Ev) (ak av : Nat → Nat) (x n y1 y2 : Nat) (D r : Dp) (h : f_X7_init x n y1 y2 D = some r) : dy_M l B E ak av yX7_init cX7_init 3 1 0 0 [.ref (B + x), .ref (B + y1), .ref (B + y2)] n D r := by
  refine dy_in (by decide) rfl (Nat.le_of_ble_eq_true rfl) ?_
  intro p e s m args below meth c I hR ls hl
  have I : dy_I p s m args meth c RX7 cX7_init 3 B n ak av := I
  have hl : lv_has ls 3 [(0, .ref (B + x)), (1, .ref (B + y1)), (2, .ref (B + y2))] := hl
  unfold f_X7_init at h
  obtain ⟨hn, h⟩ := kN_ok h
  obtain ⟨hx, h⟩ := kO_ok h
  refine lv_aload_n I.1.1 I.1.2.1 dX7_init_0 rfl (lv_at hl 0 rfl) ?_
  refine dr_obj I wo_RX7 wO_in wO_co hl.1 (by decide) dX7_init_1 ?_
  refine lv_aload_n I.1.1 I.1.2.1 dX7_init_4 rfl (lv_at hl 0 rfl) ?_
  refine lv_iconst (v := (0 : Int32)) I.1.1 I.1.2.1 dX7_init_5 (by decide) ?_
  obtain ⟨D1, e1, h⟩ := le1_ok h
  refine dr_putI I cf7 fD_RX7_9 hR hx e1 dX7_init_6 (fun H locs hR => ?_)
  replace hn := (tq_I e1).1.trans hn
  replace hx := dr_o hx (tq_I e1).1 (tq_I e1).2
  refine lv_aload_n I.1.1 I.1.2.1 dX7_init_9 rfl (lv_at hl 0 rfl) ?_
  refine lv_aload_n I.1.1 I.1.2.1 dX7_init_10 rfl (lv_at hl 1 rfl) ?_
  obtain ⟨D2, e2, h⟩ := le1_ok h
  refine dr_putP (fun _ => ⟨rfl, rfl⟩) I cf7 fD_RX7_15 hR hx e2 dX7_init_11 (fun H locs hR => ?_)
  replace hn := (tq_P e2).1.trans hn
  replace hx := dr_o hx (tq_P e2).1 (tq_P e2).2
  refine lv_aload_n I.1.1 I.1.2.1 dX7_init_14 rfl (lv_at hl 0 rfl) ?_
  refine lv_aload_n I.1.1 I.1.2.1 dX7_init_15 rfl (lv_at hl 2 rfl) ?_
  obtain ⟨D3, e3, h⟩ := le1_ok h
  refine dr_putP (fun _ => ⟨rfl, rfl⟩) I cf7 fD_RX7_19 hR hx e3 dX7_init_16 (fun H locs hR => ?_)
  replace hn := (tq_P e3).1.trans hn
  replace hx := dr_o hx (tq_P e3).1 (tq_P e3).2
  exact dr_ret (d := 0) I hR h (Nat.le_of_ble_eq_true rfl) (Nat.le_of_ble_eq_true rfl) dX7_init_19
theorem dX8_init_0 : decode cX8_init 0 = .ok (.aload_n 0, 1) := by decide +kernel
theorem dX8_init_1 : decode cX8_init 1 = .ok (.invokespecial 3, 3) := by decide +kernel
theorem dX8_init_4 : decode cX8_init 4 = .ok (.aload_n 0, 1) := by decide +kernel
theorem dX8_init_5 : decode cX8_init 5 = .ok (.bipush 6, 2) := by decide +kernel
theorem dX8_init_7 : decode cX8_init 7 = .ok (.newarray .int, 2) := by decide +kernel
theorem dX8_init_9 : decode cX8_init 9 = .ok (.putfield 9, 3) := by decide +kernel
theorem dX8_init_12 : decode cX8_init 12 = .ok (.aload_n 0, 1) := by decide +kernel
theorem dX8_init_13 : decode cX8_init 13 = .ok (.bipush 6, 2) := by decide +kernel
theorem dX8_init_15 : decode cX8_init 15 = .ok (.newarray .int, 2) := by decide +kernel
theorem dX8_init_17 : decode cX8_init 17 = .ok (.putfield 15, 3) := by decide +kernel
theorem dX8_init_20 : decode cX8_init 20 = .ok (.aload_n 0, 1) := by decide +kernel
theorem dX8_init_21 : decode cX8_init 21 = .ok (.iconst 0, 1) := by decide +kernel
theorem dX8_init_22 : decode cX8_init 22 = .ok (.putfield 18, 3) := by decide +kernel
theorem dX8_init_25 : decode cX8_init 25 = .ok (.aload_n 0, 1) := by decide +kernel
theorem dX8_init_26 : decode cX8_init 26 = .ok (.iconst 0, 1) := by decide +kernel
theorem dX8_init_27 : decode cX8_init 27 = .ok (.putfield 22, 3) := by decide +kernel
theorem dX8_init_30 : decode cX8_init 30 = .ok (.aload_n 0, 1) := by decide +kernel
theorem dX8_init_31 : decode cX8_init 31 = .ok (.iconst 0, 1) := by decide +kernel
theorem dX8_init_32 : decode cX8_init 32 = .ok (.putfield 25, 3) := by decide +kernel
theorem dX8_init_35 : decode cX8_init 35 = .ok (.aload_n 0, 1) := by decide +kernel
theorem dX8_init_36 : decode cX8_init 36 = .ok (.bipush 40, 2) := by decide +kernel
theorem dX8_init_38 : decode cX8_init 38 = .ok (.newarray .int, 2) := by decide +kernel
theorem dX8_init_40 : decode cX8_init 40 = .ok (.putfield 30, 3) := by decide +kernel
theorem dX8_init_43 : decode cX8_init 43 = .ok (.aload_n 0, 1) := by decide +kernel
theorem dX8_init_44 : decode cX8_init 44 = .ok (.iconst 5, 1) := by decide +kernel
theorem dX8_init_45 : decode cX8_init 45 = .ok (.newarray .int, 2) := by decide +kernel
theorem dX8_init_47 : decode cX8_init 47 = .ok (.putfield 33, 3) := by decide +kernel
theorem dX8_init_50 : decode cX8_init 50 = .ok (.aload_n 0, 1) := by decide +kernel
theorem dX8_init_51 : decode cX8_init 51 = .ok (.aload_n 1, 1) := by decide +kernel
theorem dX8_init_52 : decode cX8_init 52 = .ok (.putfield 36, 3) := by decide +kernel
theorem dX8_init_55 : decode cX8_init 55 = .ok (.return_, 1) := by decide +kernel
def f_X8_init (x n y1 : Nat) (D : Dp) : Option Dp :=
  kN D n (kO D x 1 8 (le1 (dyN D 4 6) (fun D1 => le1 (dyP D1 x 1 n) (fun D2 => le1 (dyN D2 4 6) (fun D3 => le1 (dyP D3 x 2 (n + 1)) (fun D4 => le1 (dyI D4 x 3 (0 : Int32)) (fun D5 => le1 (dyI D5 x 4 (0 : Int32)) (fun D6 => le1 (dyI D6 x 5 (0 : Int32)) (fun D7 => le1 (dyN D7 4 40) (fun D8 => le1 (dyP D8 x 6 (n + 2)) (fun D9 => le1 (dyN D9 4 5) (fun D10 => le1 (dyP D10 x 7 (n + 3)) (fun D11 => le1 (dyP D11 x 0 y1) (fun D12 => some D12))))))))))))))
set_option maxHeartbeats 4000000 in
set_option maxRecDepth 100000 in
theorem c_X8_init (l : Launch) (B : Nat) (E : Ev) (ak av : Nat → Nat) (x n y1 : Nat) (D r : Dp) (h : f_X8_init x n y1 D = some r) : dy_M l B E ak av yX8_init cX8_init 2 1 4 57 [.ref (B + x), .ref (B + y1)] n D r := by
  refine dy_in (by decide) rfl (Nat.le_of_ble_eq_true rfl) ?_
  intro p e s m args below meth c I hR ls hl
  have I : dy_I p s m args meth c RX8 cX8_init 2 B n ak av := I
  have hl : lv_has ls 2 [(0, .ref (B + x)), (1, .ref (B + y1))] := hl
  unfold f_X8_init at h
  obtain ⟨hn, h⟩ := kN_ok h
  obtain ⟨hx, h⟩ := kO_ok h
  refine lv_aload_n I.1.1 I.1.2.1 dX8_init_0 rfl (lv_at hl 0 rfl) ?_
  refine dr_obj I wo_RX8 wO_in wO_co hl.1 (by decide) dX8_init_1 ?_
  refine lv_aload_n I.1.1 I.1.2.1 dX8_init_4 rfl (lv_at hl 0 rfl) ?_
  refine lv_bipush (v := (6 : Int32)) I.1.1 I.1.2.1 dX8_init_5 (by decide) ?_
  obtain ⟨D1, e1, h⟩ := le1_ok h
  refine dr_newI (N := 6) I wA_int (by decide) rfl (by decide) hR hn (by omega) (Nat.zero_lt_of_lt hx.1) e1 (Nat.le_of_ble_eq_true rfl) (Nat.le_of_ble_eq_true rfl) dX8_init_7 (fun H hR => ?_)
  replace hx := dr_oN hx e1
  have hv1 := dr_new1 hn e1
  replace hn := tq_N hn e1
  refine W.widen (k := 1) (n := 6) (Nat.le_of_ble_eq_true rfl) (Nat.le_of_ble_eq_true rfl) ?_
  obtain ⟨D2, e2, h⟩ := le1_ok h
  refine dr_putP (fun _ => ⟨rfl, rfl⟩) I cf8 fD_RX8_9 hR hx e2 dX8_init_9 (fun H locs hR => ?_)
  replace hn := (tq_P e2).1.trans hn
  replace hx := dr_o hx (tq_P e2).1 (tq_P e2).2
  refine lv_aload_n I.1.1 I.1.2.1 dX8_init_12 rfl (lv_at hl 0 rfl) ?_
  refine lv_bipush (v := (6 : Int32)) I.1.1 I.1.2.1 dX8_init_13 (by decide) ?_
  obtain ⟨D3, e3, h⟩ := le1_ok h
  refine dr_newI (N := 6) I wA_int (by decide) rfl (by decide) hR hn (by omega) (Nat.zero_lt_of_lt hx.1) e3 (Nat.le_of_ble_eq_true rfl) (Nat.le_of_ble_eq_true rfl) dX8_init_15 (fun H hR => ?_)
  replace hx := dr_oN hx e3
  have hv3 := dr_new1 hn e3
  replace hn := tq_N hn e3
  refine W.widen (k := 2) (n := 12) (Nat.le_of_ble_eq_true rfl) (Nat.le_of_ble_eq_true rfl) ?_
  obtain ⟨D4, e4, h⟩ := le1_ok h
  refine dr_putP (fun _ => ⟨rfl, rfl⟩) I cf8 fD_RX8_15 hR hx e4 dX8_init_17 (fun H locs hR => ?_)
  replace hn := (tq_P e4).1.trans hn
  replace hx := dr_o hx (tq_P e4).1 (tq_P e4).2
  refine lv_aload_n I.1.1 I.1.2.1 dX8_init_20 rfl (lv_at hl 0 rfl) ?_
  refine lv_iconst (v := (0 : Int32)) I.1.1 I.1.2.1 dX8_init_21 (by decide) ?_
  obtain ⟨D5, e5, h⟩ := le1_ok h
  refine dr_putI I cf8 fD_RX8_18 hR hx e5 dX8_init_22 (fun H locs hR => ?_)
  replace hn := (tq_I e5).1.trans hn
  replace hx := dr_o hx (tq_I e5).1 (tq_I e5).2
  refine lv_aload_n I.1.1 I.1.2.1 dX8_init_25 rfl (lv_at hl 0 rfl) ?_
  refine lv_iconst (v := (0 : Int32)) I.1.1 I.1.2.1 dX8_init_26 (by decide) ?_
  obtain ⟨D6, e6, h⟩ := le1_ok h
  refine dr_putI I cf8 fD_RX8_22 hR hx e6 dX8_init_27 (fun H locs hR => ?_)
  replace hn := (tq_I e6).1.trans hn
  replace hx := dr_o hx (tq_I e6).1 (tq_I e6).2
  refine lv_aload_n I.1.1 I.1.2.1 dX8_init_30 rfl (lv_at hl 0 rfl) ?_
  refine lv_iconst (v := (0 : Int32)) I.1.1 I.1.2.1 dX8_init_31 (by decide) ?_
  obtain ⟨D7, e7, h⟩ := le1_ok h
  refine dr_putI I cf8 fD_RX8_25 hR hx e7 dX8_init_32 (fun H locs hR => ?_)
  replace hn := (tq_I e7).1.trans hn
  replace hx := dr_o hx (tq_I e7).1 (tq_I e7).2
  refine lv_aload_n I.1.1 I.1.2.1 dX8_init_35 rfl (lv_at hl 0 rfl) ?_
  refine lv_bipush (v := (40 : Int32)) I.1.1 I.1.2.1 dX8_init_36 (by decide) ?_
  obtain ⟨D8, e8, h⟩ := le1_ok h
  refine dr_newI (N := 40) I wA_int (by decide) rfl (by decide) hR hn (by omega) (Nat.zero_lt_of_lt hx.1) e8 (Nat.le_of_ble_eq_true rfl) (Nat.le_of_ble_eq_true rfl) dX8_init_38 (fun H hR => ?_)
  replace hx := dr_oN hx e8
  have hv8 := dr_new1 hn e8
  replace hn := tq_N hn e8
  refine W.widen (k := 3) (n := 52) (Nat.le_of_ble_eq_true rfl) (Nat.le_of_ble_eq_true rfl) ?_
  obtain ⟨D9, e9, h⟩ := le1_ok h
  refine dr_putP (fun _ => ⟨rfl, rfl⟩) I cf8 fD_RX8_30 hR hx e9 dX8_init_40 (fun H locs hR => ?_)
  replace hn := (tq_P e9).1.trans hn
  replace hx := dr_o hx (tq_P e9).1 (tq_P e9).2
  refine lv_aload_n I.1.1 I.1.2.1 dX8_init_43 rfl (lv_at hl 0 rfl) ?_
  refine lv_iconst (v := (5 : Int32)) I.1.1 I.1.2.1 dX8_init_44 (by decide) ?_
  obtain ⟨D10, e10, h⟩ := le1_ok h
  refine dr_newI (N := 5) I wA_int (by decide) rfl (by decide) hR hn (by omega) (Nat.zero_lt_of_lt hx.1) e10 (Nat.le_of_ble_eq_true rfl) (Nat.le_of_ble_eq_true rfl) dX8_init_45 (fun H hR => ?_)
  replace hx := dr_oN hx e10
  have hv10 := dr_new1 hn e10
  replace hn := tq_N hn e10
  refine W.widen (k := 4) (n := 57) (Nat.le_of_ble_eq_true rfl) (Nat.le_of_ble_eq_true rfl) ?_
  obtain ⟨D11, e11, h⟩ := le1_ok h
  refine dr_putP (fun _ => ⟨rfl, rfl⟩) I cf8 fD_RX8_33 hR hx e11 dX8_init_47 (fun H locs hR => ?_)
  replace hn := (tq_P e11).1.trans hn
  replace hx := dr_o hx (tq_P e11).1 (tq_P e11).2
  refine lv_aload_n I.1.1 I.1.2.1 dX8_init_50 rfl (lv_at hl 0 rfl) ?_
  refine lv_aload_n I.1.1 I.1.2.1 dX8_init_51 rfl (lv_at hl 1 rfl) ?_
  obtain ⟨D12, e12, h⟩ := le1_ok h
  refine dr_putP (fun _ => ⟨rfl, rfl⟩) I cf8 fD_RX8_36 hR hx e12 dX8_init_52 (fun H locs hR => ?_)
  replace hn := (tq_P e12).1.trans hn
  replace hx := dr_o hx (tq_P e12).1 (tq_P e12).2
  exact dr_ret (d := 0) I hR h (Nat.le_of_ble_eq_true rfl) (Nat.le_of_ble_eq_true rfl) dX8_init_55
theorem dX1_init_0 : decode cX1_init 0 = .ok (.aload_n 0, 1) := by decide +kernel
theorem dX1_init_1 : decode cX1_init 1 = .ok (.invokespecial 3, 3) := by decide +kernel
theorem dX1_init_4 : decode cX1_init 4 = .ok (.aload_n 0, 1) := by decide +kernel
theorem dX1_init_5 : decode cX1_init 5 = .ok (.iconst 0, 1) := by decide +kernel
theorem dX1_init_6 : decode cX1_init 6 = .ok (.putfield 9, 3) := by decide +kernel
theorem dX1_init_9 : decode cX1_init 9 = .ok (.aload_n 0, 1) := by decide +kernel
theorem dX1_init_10 : decode cX1_init 10 = .ok (.iconst 0, 1) := by decide +kernel
theorem dX1_init_11 : decode cX1_init 11 = .ok (.putfield 15, 3) := by decide +kernel
theorem dX1_init_14 : decode cX1_init 14 = .ok (.aload_n 0, 1) := by decide +kernel
theorem dX1_init_15 : decode cX1_init 15 = .ok (.iconst (-1), 1) := by decide +kernel
theorem dX1_init_16 : decode cX1_init 16 = .ok (.putfield 18, 3) := by decide +kernel
theorem dX1_init_19 : decode cX1_init 19 = .ok (.aload_n 0, 1) := by decide +kernel
theorem dX1_init_20 : decode cX1_init 20 = .ok (.iconst 0, 1) := by decide +kernel
theorem dX1_init_21 : decode cX1_init 21 = .ok (.putfield 21, 3) := by decide +kernel
theorem dX1_init_24 : decode cX1_init 24 = .ok (.aload_n 0, 1) := by decide +kernel
theorem dX1_init_25 : decode cX1_init 25 = .ok (.bipush 16, 2) := by decide +kernel
theorem dX1_init_27 : decode cX1_init 27 = .ok (.newarray .int, 2) := by decide +kernel
theorem dX1_init_29 : decode cX1_init 29 = .ok (.putfield 24, 3) := by decide +kernel
theorem dX1_init_32 : decode cX1_init 32 = .ok (.aload_n 0, 1) := by decide +kernel
theorem dX1_init_33 : decode cX1_init 33 = .ok (.bipush 16, 2) := by decide +kernel
theorem dX1_init_35 : decode cX1_init 35 = .ok (.newarray .int, 2) := by decide +kernel
theorem dX1_init_37 : decode cX1_init 37 = .ok (.putfield 28, 3) := by decide +kernel
theorem dX1_init_40 : decode cX1_init 40 = .ok (.aload_n 0, 1) := by decide +kernel
theorem dX1_init_41 : decode cX1_init 41 = .ok (.bipush 64, 2) := by decide +kernel
theorem dX1_init_43 : decode cX1_init 43 = .ok (.newarray .int, 2) := by decide +kernel
theorem dX1_init_45 : decode cX1_init 45 = .ok (.putfield 31, 3) := by decide +kernel
theorem dX1_init_48 : decode cX1_init 48 = .ok (.aload_n 0, 1) := by decide +kernel
theorem dX1_init_49 : decode cX1_init 49 = .ok (.bipush 6, 2) := by decide +kernel
theorem dX1_init_51 : decode cX1_init 51 = .ok (.bipush 64, 2) := by decide +kernel
theorem dX1_init_53 : decode cX1_init 53 = .ok (.multianewarray 34 2, 4) := by decide +kernel
theorem dX1_init_57 : decode cX1_init 57 = .ok (.putfield 36, 3) := by decide +kernel
theorem dX1_init_60 : decode cX1_init 60 = .ok (.aload_n 0, 1) := by decide +kernel
theorem dX1_init_61 : decode cX1_init 61 = .ok (.aload_n 1, 1) := by decide +kernel
theorem dX1_init_62 : decode cX1_init 62 = .ok (.putfield 39, 3) := by decide +kernel
theorem dX1_init_65 : decode cX1_init 65 = .ok (.return_, 1) := by decide +kernel
def f_X1_init (x n y1 : Nat) (D : Dp) : Option Dp :=
  kN D n (kO D x 1 1 (le1 (dyI D x 0 (0 : Int32)) (fun D1 => le1 (dyI D1 x 1 (0 : Int32)) (fun D2 => le1 (dyI D2 x 2 (-1 : Int32)) (fun D3 => le1 (dyI D3 x 3 (0 : Int32)) (fun D4 => le1 (dyN D4 4 16) (fun D5 => le1 (dyP D5 x 5 n) (fun D6 => le1 (dyN D6 4 16) (fun D7 => le1 (dyP D7 x 6 (n + 1)) (fun D8 => le1 (dyN D8 4 64) (fun D9 => le1 (dyP D9 x 7 (n + 2)) (fun D10 => le1 (dyM D10 6 64) (fun D11 => le1 (dyP D11 x 8 (n + 3)) (fun D12 => le1 (dyP D12 x 4 y1) (fun D13 => some D13)))))))))))))))
set_option maxHeartbeats 4000000 in
set_option maxRecDepth 100000 in
theorem c_X1_init (l : Launch) (B : Nat) (E : Ev) (ak av : Nat → Nat) (x n y1 : Nat) (D r : Dp) (h : f_X1_init x n y1 D = some r) : dy_M l B E ak av yX1_init cX1_init 2 1 10 486 [.ref (B + x), .ref (B + y1)] n D r := by
  refine dy_in (by decide) rfl (Nat.le_of_ble_eq_true rfl) ?_
  intro p e s m args below meth c I hR ls hl
  have I : dy_I p s m args meth c RX1 cX1_init 2 B n ak av := I
  have hl : lv_has ls 2 [(0, .ref (B + x)), (1, .ref (B + y1))] := hl
  unfold f_X1_init at h
  obtain ⟨hn, h⟩ := kN_ok h
  obtain ⟨hx, h⟩ := kO_ok h
  refine lv_aload_n I.1.1 I.1.2.1 dX1_init_0 rfl (lv_at hl 0 rfl) ?_
  refine dr_obj I wo_RX1 wO_in wO_co hl.1 (by decide) dX1_init_1 ?_
  refine lv_aload_n I.1.1 I.1.2.1 dX1_init_4 rfl (lv_at hl 0 rfl) ?_
  refine lv_iconst (v := (0 : Int32)) I.1.1 I.1.2.1 dX1_init_5 (by decide) ?_
  obtain ⟨D1, e1, h⟩ := le1_ok h
  refine dr_putI I cf1 fD_RX1_9 hR hx e1 dX1_init_6 (fun H locs hR => ?_)
  replace hn := (tq_I e1).1.trans hn
  replace hx := dr_o hx (tq_I e1).1 (tq_I e1).2
  refine lv_aload_n I.1.1 I.1.2.1 dX1_init_9 rfl (lv_at hl 0 rfl) ?_
  refine lv_iconst (v := (0 : Int32)) I.1.1 I.1.2.1 dX1_init_10 (by decide) ?_
  obtain ⟨D2, e2, h⟩ := le1_ok h
  refine dr_putI I cf1 fD_RX1_15 hR hx e2 dX1_init_11 (fun H locs hR => ?_)
  replace hn := (tq_I e2).1.trans hn
  replace hx := dr_o hx (tq_I e2).1 (tq_I e2).2
  refine lv_aload_n I.1.1 I.1.2.1 dX1_init_14 rfl (lv_at hl 0 rfl) ?_
  refine lv_iconst (v := (-1 : Int32)) I.1.1 I.1.2.1 dX1_init_15 (by decide) ?_
  obtain ⟨D3, e3, h⟩ := le1_ok h
  refine dr_putI I cf1 fD_RX1_18 hR hx e3 dX1_init_16 (fun H locs hR => ?_)
  replace hn := (tq_I e3).1.trans hn
  replace hx := dr_o hx (tq_I e3).1 (tq_I e3).2
  refine lv_aload_n I.1.1 I.1.2.1 dX1_init_19 rfl (lv_at hl 0 rfl) ?_
  refine lv_iconst (v := (0 : Int32)) I.1.1 I.1.2.1 dX1_init_20 (by decide) ?_
  obtain ⟨D4, e4, h⟩ := le1_ok h
  refine dr_putI I cf1 fD_RX1_21 hR hx e4 dX1_init_21 (fun H locs hR => ?_)
  replace hn := (tq_I e4).1.trans hn
  replace hx := dr_o hx (tq_I e4).1 (tq_I e4).2
  refine lv_aload_n I.1.1 I.1.2.1 dX1_init_24 rfl (lv_at hl 0 rfl) ?_
  refine lv_bipush (v := (16 : Int32)) I.1.1 I.1.2.1 dX1_init_25 (by decide) ?_
  obtain ⟨D5, e5, h⟩ := le1_ok h
  refine dr_newI (N := 16) I wA_int (by decide) rfl (by decide) hR hn (by omega) (Nat.zero_lt_of_lt hx.1) e5 (Nat.le_of_ble_eq_true rfl) (Nat.le_of_ble_eq_true rfl) dX1_init_27 (fun H hR => ?_)
  replace hx := dr_oN hx e5
  have hv5 := dr_new1 hn e5
  replace hn := tq_N hn e5
  refine W.widen (k := 1) (n := 16) (Nat.le_of_ble_eq_true rfl) (Nat.le_of_ble_eq_true rfl) ?_
  obtain ⟨D6, e6, h⟩ := le1_ok h
  refine dr_putP (fun _ => ⟨rfl, rfl⟩) I cf1 fD_RX1_24 hR hx e6 dX1_init_29 (fun H locs hR => ?_)
  replace hn := (tq_P e6).1.trans hn
  replace hx := dr_o hx (tq_P e6).1 (tq_P e6).2
  refine lv_aload_n I.1.1 I.1.2.1 dX1_init_32 rfl (lv_at hl 0 rfl) ?_
  refine lv_bipush (v := (16 : Int32)) I.1.1 I.1.2.1 dX1_init_33 (by decide) ?_
  obtain ⟨D7, e7, h⟩ := le1_ok h
  refine dr_newI (N := 16) I wA_int (by decide) rfl (by decide) hR hn (by omega) (Nat.zero_lt_of_lt hx.1) e7 (Nat.le_of_ble_eq_true rfl) (Nat.le_of_ble_eq_true rfl) dX1_init_35 (fun H hR => ?_)
  replace hx := dr_oN hx e7
  have hv7 := dr_new1 hn e7
  replace hn := tq_N hn e7
  refine W.widen (k := 2) (n := 32) (Nat.le_of_ble_eq_true rfl) (Nat.le_of_ble_eq_true rfl) ?_
  obtain ⟨D8, e8, h⟩ := le1_ok h
  refine dr_putP (fun _ => ⟨rfl, rfl⟩) I cf1 fD_RX1_28 hR hx e8 dX1_init_37 (fun H locs hR => ?_)
  replace hn := (tq_P e8).1.trans hn
  replace hx := dr_o hx (tq_P e8).1 (tq_P e8).2
  refine lv_aload_n I.1.1 I.1.2.1 dX1_init_40 rfl (lv_at hl 0 rfl) ?_
  refine lv_bipush (v := (64 : Int32)) I.1.1 I.1.2.1 dX1_init_41 (by decide) ?_
  obtain ⟨D9, e9, h⟩ := le1_ok h
  refine dr_newI (N := 64) I wA_int (by decide) rfl (by decide) hR hn (by omega) (Nat.zero_lt_of_lt hx.1) e9 (Nat.le_of_ble_eq_true rfl) (Nat.le_of_ble_eq_true rfl) dX1_init_43 (fun H hR => ?_)
  replace hx := dr_oN hx e9
  have hv9 := dr_new1 hn e9
  replace hn := tq_N hn e9
  refine W.widen (k := 3) (n := 96) (Nat.le_of_ble_eq_true rfl) (Nat.le_of_ble_eq_true rfl) ?_
  obtain ⟨D10, e10, h⟩ := le1_ok h
  refine dr_putP (fun _ => ⟨rfl, rfl⟩) I cf1 fD_RX1_31 hR hx e10 dX1_init_45 (fun H locs hR => ?_)
  replace hn := (tq_P e10).1.trans hn
  replace hx := dr_o hx (tq_P e10).1 (tq_P e10).2
  refine lv_aload_n I.1.1 I.1.2.1 dX1_init_48 rfl (lv_at hl 0 rfl) ?_
  refine lv_bipush (v := (6 : Int32)) I.1.1 I.1.2.1 dX1_init_49 (by decide) ?_
  refine lv_bipush (v := (64 : Int32)) I.1.1 I.1.2.1 dX1_init_51 (by decide) ?_
  obtain ⟨D11, e11, h⟩ := le1_ok h
  refine dr_mna (N := 6) (K := 64) I wM_RX1_34 wA_int (by decide) (by decide) rfl rfl (by decide) (by decide) (by decide) hR hn (by omega) (Nat.zero_lt_of_lt hx.1) e11 (Nat.le_of_ble_eq_true rfl) (Nat.le_of_ble_eq_true rfl) dX1_init_53 (fun H hR => ?_)
  replace hx := dr_oM hx e11
  replace hn := tq_M hn e11
  refine W.widen (k := 10) (n := 486) (Nat.le_of_ble_eq_true rfl) (Nat.le_of_ble_eq_true rfl) ?_
  obtain ⟨D12, e12, h⟩ := le1_ok h
  refine dr_putP (fun _ => ⟨rfl, rfl⟩) I cf1 fD_RX1_36 hR hx e12 dX1_init_57 (fun H locs hR => ?_)
  replace hn := (tq_P e12).1.trans hn
  replace hx := dr_o hx (tq_P e12).1 (tq_P e12).2
  refine lv_aload_n I.1.1 I.1.2.1 dX1_init_60 rfl (lv_at hl 0 rfl) ?_
  refine lv_aload_n I.1.1 I.1.2.1 dX1_init_61 rfl (lv_at hl 1 rfl) ?_
  obtain ⟨D13, e13, h⟩ := le1_ok h
  refine dr_putP (fun _ => ⟨rfl, rfl⟩) I cf1 fD_RX1_39 hR hx e13 dX1_init_62 (fun H locs hR => ?_)
  replace hn := (tq_P e13).1.trans hn
  replace hx := dr_o hx (tq_P e13).1 (tq_P e13).2
  exact dr_ret (d := 0) I hR h (Nat.le_of_ble_eq_true rfl) (Nat.le_of_ble_eq_true rfl) dX1_init_65
theorem dX2_init_0 : decode cX2_init 0 = .ok (.aload_n 0, 1) := by decide +kernel
theorem dX2_init_1 : decode cX2_init 1 = .ok (.invokespecial 3, 3) := by decide +kernel
theorem dX2_init_4 : decode cX2_init 4 = .ok (.aload_n 0, 1) := by decide +kernel
theorem dX2_init_5 : decode cX2_init 5 = .ok (.iconst 0, 1) := by decide +kernel
theorem dX2_init_6 : decode cX2_init 6 = .ok (.putfield 9, 3) := by decide +kernel
theorem dX2_init_9 : decode cX2_init 9 = .ok (.aload_n 0, 1) := by decide +kernel
theorem dX2_init_10 : decode cX2_init 10 = .ok (.iconst 0, 1) := by decide +kernel
theorem dX2_init_11 : decode cX2_init 11 = .ok (.putfield 15, 3) := by decide +kernel
theorem dX2_init_14 : decode cX2_init 14 = .ok (.aload_n 0, 1) := by decide +kernel
theorem dX2_init_15 : decode cX2_init 15 = .ok (.iconst 0, 1) := by decide +kernel
theorem dX2_init_16 : decode cX2_init 16 = .ok (.putfield 18, 3) := by decide +kernel
theorem dX2_init_19 : decode cX2_init 19 = .ok (.aload_n 0, 1) := by decide +kernel
theorem dX2_init_20 : decode cX2_init 20 = .ok (.iconst 0, 1) := by decide +kernel
theorem dX2_init_21 : decode cX2_init 21 = .ok (.putfield 21, 3) := by decide +kernel
theorem dX2_init_24 : decode cX2_init 24 = .ok (.aload_n 0, 1) := by decide +kernel
theorem dX2_init_25 : decode cX2_init 25 = .ok (.iconst 0, 1) := by decide +kernel
theorem dX2_init_26 : decode cX2_init 26 = .ok (.putfield 24, 3) := by decide +kernel
theorem dX2_init_29 : decode cX2_init 29 = .ok (.aload_n 0, 1) := by decide +kernel
theorem dX2_init_30 : decode cX2_init 30 = .ok (.iconst 3, 1) := by decide +kernel
theorem dX2_init_31 : decode cX2_init 31 = .ok (.newarray .int, 2) := by decide +kernel
theorem dX2_init_33 : decode cX2_init 33 = .ok (.putfield 27, 3) := by decide +kernel
theorem dX2_init_36 : decode cX2_init 36 = .ok (.aload_n 0, 1) := by decide +kernel
theorem dX2_init_37 : decode cX2_init 37 = .ok (.iconst 3, 1) := by decide +kernel
theorem dX2_init_38 : decode cX2_init 38 = .ok (.bipush 6, 2) := by decide +kernel
theorem dX2_init_40 : decode cX2_init 40 = .ok (.multianewarray 31 2, 4) := by decide +kernel
theorem dX2_init_44 : decode cX2_init 44 = .ok (.putfield 33, 3) := by decide +kernel
theorem dX2_init_47 : decode cX2_init 47 = .ok (.aload_n 0, 1) := by decide +kernel
theorem dX2_init_48 : decode cX2_init 48 = .ok (.bipush 6, 2) := by decide +kernel
theorem dX2_init_50 : decode cX2_init 50 = .ok (.newarray .int, 2) := by decide +kernel
theorem dX2_init_52 : decode cX2_init 52 = .ok (.putfield 36, 3) := by decide +kernel
theorem dX2_init_55 : decode cX2_init 55 = .ok (.aload_n 0, 1) := by decide +kernel
theorem dX2_init_56 : decode cX2_init 56 = .ok (.bipush 6, 2) := by decide +kernel
theorem dX2_init_58 : decode cX2_init 58 = .ok (.newarray .int, 2) := by decide +kernel
theorem dX2_init_60 : decode cX2_init 60 = .ok (.putfield 39, 3) := by decide +kernel
theorem dX2_init_63 : decode cX2_init 63 = .ok (.aload_n 0, 1) := by decide +kernel
theorem dX2_init_64 : decode cX2_init 64 = .ok (.bipush 6, 2) := by decide +kernel
theorem dX2_init_66 : decode cX2_init 66 = .ok (.newarray .int, 2) := by decide +kernel
theorem dX2_init_68 : decode cX2_init 68 = .ok (.putfield 42, 3) := by decide +kernel
theorem dX2_init_71 : decode cX2_init 71 = .ok (.aload_n 0, 1) := by decide +kernel
theorem dX2_init_72 : decode cX2_init 72 = .ok (.bipush 6, 2) := by decide +kernel
theorem dX2_init_74 : decode cX2_init 74 = .ok (.newarray .int, 2) := by decide +kernel
theorem dX2_init_76 : decode cX2_init 76 = .ok (.putfield 45, 3) := by decide +kernel
theorem dX2_init_79 : decode cX2_init 79 = .ok (.aload_n 0, 1) := by decide +kernel
theorem dX2_init_80 : decode cX2_init 80 = .ok (.bipush 6, 2) := by decide +kernel
theorem dX2_init_82 : decode cX2_init 82 = .ok (.newarray .int, 2) := by decide +kernel
theorem dX2_init_84 : decode cX2_init 84 = .ok (.putfield 48, 3) := by decide +kernel
theorem dX2_init_87 : decode cX2_init 87 = .ok (.aload_n 0, 1) := by decide +kernel
theorem dX2_init_88 : decode cX2_init 88 = .ok (.iconst 5, 1) := by decide +kernel
theorem dX2_init_89 : decode cX2_init 89 = .ok (.newarray .int, 2) := by decide +kernel
theorem dX2_init_91 : decode cX2_init 91 = .ok (.putfield 51, 3) := by decide +kernel
theorem dX2_init_94 : decode cX2_init 94 = .ok (.aload_n 0, 1) := by decide +kernel
theorem dX2_init_95 : decode cX2_init 95 = .ok (.iconst 5, 1) := by decide +kernel
theorem dX2_init_96 : decode cX2_init 96 = .ok (.newarray .int, 2) := by decide +kernel
theorem dX2_init_98 : decode cX2_init 98 = .ok (.putfield 54, 3) := by decide +kernel
theorem dX2_init_101 : decode cX2_init 101 = .ok (.aload_n 0, 1) := by decide +kernel
theorem dX2_init_102 : decode cX2_init 102 = .ok (.new 57, 3) := by decide +kernel
theorem dX2_init_105 : decode cX2_init 105 = .ok (.dup, 1) := by decide +kernel
theorem dX2_init_106 : decode cX2_init 106 = .ok (.invokespecial 59, 3) := by decide +kernel
theorem dX2_init_109 : decode cX2_init 109 = .ok (.putfield 60, 3) := by decide +kernel
theorem dX2_init_112 : decode cX2_init 112 = .ok (.aload_n 0, 1) := by decide +kernel
theorem dX2_init_113 : decode cX2_init 113 = .ok (.new 57, 3) := by decide +kernel
theorem dX2_init_116 : decode cX2_init 116 = .ok (.dup, 1) := by decide +kernel
theorem dX2_init_117 : decode cX2_init 117 = .ok (.invokespecial 59, 3) := by decide +kernel
theorem dX2_init_120 : decode cX2_init 120 = .ok (.putfield 64, 3) := by decide +kernel
theorem dX2_init_123 : decode cX2_init 123 = .ok (.return_, 1) := by decide +kernel
def f_X2_init (x n : Nat) (D : Dp) : Option Dp :=
  kN D n (kO D x 1 2 (le1 (dyI D x 0 (0 : Int32)) (fun D1 => le1 (dyI D1 x 1 (0 : Int32)) (fun D2 => le1 (dyI D2 x 2 (0 : Int32)) (fun D3 => le1 (dyI D3 x 3 (0 : Int32)) (fun D4 => le1 (dyI D4 x 4 (0 : Int32)) (fun D5 => le1 (dyN D5 4 3) (fun D6 => le1 (dyP D6 x 5 n) (fun D7 => le1 (dyM D7 3 6) (fun D8 => le1 (dyP D8 x 6 (n + 1)) (fun D9 => le1 (dyN D9 4 6) (fun D10 => le1 (dyP D10 x 7 (n + 5)) (fun D11 => le1 (dyN D11 4 6) (fun D12 => le1 (dyP D12 x 8 (n + 6)) (fun D13 => le1 (dyN D13 4 6) (fun D14 => le1 (dyP D14 x 9 (n + 7)) (fun D15 => le1 (dyN D15 4 6) (fun D16 => le1 (dyP D16 x 10 (n + 8)) (fun D17 => le1 (dyN D17 4 6) (fun D18 => le1 (dyP D18 x 11 (n + 9)) (fun D19 => le1 (dyN D19 4 5) (fun D20 => le1 (dyP D20 x 12 (n + 10)) (fun D21 => le1 (dyN D21 4 5) (fun D22 => le1 (dyP D22 x 13 (n + 11)) (fun D23 => le1 (dyN D23 1 4) (fun D24 => ob (f_X4_init (n + 12) (n + 13) D24) (fun D25 => kN D25 (n + 15) (kO D25 x 1 2 (le1 (dyP D25 x 14 (n + 12)) (fun D26 => le1 (dyN D26 1 4) (fun D27 => ob (f_X4_init (n + 15) (n + 16) D27) (fun D28 => kN D28 (n + 18) (kO D28 x 1 2 (le1 (dyP D28 x 15 (n + 15)) (fun D29 => some D29)))))))))))))))))))))))))))))))))))
set_option maxHeartbeats 4000000 in
set_option maxRecDepth 100000 in
theorem c_X2_init (l : Launch) (B : Nat) (E : Ev) (ak av : Nat → Nat) (x n : Nat) (D r : Dp) (h : f_X2_init x n D = some r) : dy_M l B E ak av yX2_init cX2_init 1 2 18 3398 [.ref (B + x)] n D r := by
  refine dy_in (by decide) rfl (Nat.le_of_ble_eq_true rfl) ?_
  intro p e s m args below meth c I hR ls hl
  have I : dy_I p s m args meth c RX2 cX2_init 1 B n ak av := I
  have hl : lv_has ls 1 [(0, .ref (B + x))] := hl
  unfold f_X2_init at h
  obtain ⟨hn, h⟩ := kN_ok h
  obtain ⟨hx, h⟩ := kO_ok h
  refine lv_aload_n I.1.1 I.1.2.1 dX2_init_0 rfl (lv_at hl 0 rfl) ?_
  refine dr_obj I wo_RX2 wO_in wO_co hl.1 (by decide) dX2_init_1 ?_
  refine lv_aload_n I.1.1 I.1.2.1 dX2_init_4 rfl (lv_at hl 0 rfl) ?_
  refine lv_iconst (v := (0 : Int32)) I.1.1 I.1.2.1 dX2_init_5 (by decide) ?_
  obtain ⟨D1, e1, h⟩ := le1_ok h
  refine dr_putI I cf2 fD_RX2_9 hR hx e1 dX2_init_6 (fun H locs hR => ?_)
  replace hn := (tq_I e1).1.trans hn
  replace hx := dr_o hx (tq_I e1).1 (tq_I e1).2
  refine lv_aload_n I.1.1 I.1.2.1 dX2_init_9 rfl (lv_at hl 0 rfl) ?_
  refine lv_iconst (v := (0 : Int32)) I.1.1 I.1.2.1 dX2_init_10 (by decide) ?_
  obtain ⟨D2, e2, h⟩ := le1_ok h
  refine dr_putI I cf2 fD_RX2_15 hR hx e2 dX2_init_11 (fun H locs hR => ?_)
  replace hn := (tq_I e2).1.trans hn
  replace hx := dr_o hx (tq_I e2).1 (tq_I e2).2
  refine lv_aload_n I.1.1 I.1.2.1 dX2_init_14 rfl (lv_at hl 0 rfl) ?_
  refine lv_iconst (v := (0 : Int32)) I.1.1 I.1.2.1 dX2_init_15 (by decide) ?_
  obtain ⟨D3, e3, h⟩ := le1_ok h
  refine dr_putI I cf2 fD_RX2_18 hR hx e3 dX2_init_16 (fun H locs hR => ?_)
  replace hn := (tq_I e3).1.trans hn
  replace hx := dr_o hx (tq_I e3).1 (tq_I e3).2
  refine lv_aload_n I.1.1 I.1.2.1 dX2_init_19 rfl (lv_at hl 0 rfl) ?_
  refine lv_iconst (v := (0 : Int32)) I.1.1 I.1.2.1 dX2_init_20 (by decide) ?_
  obtain ⟨D4, e4, h⟩ := le1_ok h
  refine dr_putI I cf2 fD_RX2_21 hR hx e4 dX2_init_21 (fun H locs hR => ?_)
  replace hn := (tq_I e4).1.trans hn
  replace hx := dr_o hx (tq_I e4).1 (tq_I e4).2
  refine lv_aload_n I.1.1 I.1.2.1 dX2_init_24 rfl (lv_at hl 0 rfl) ?_
  refine lv_iconst (v := (0 : Int32)) I.1.1 I.1.2.1 dX2_init_25 (by decide) ?_
  obtain ⟨D5, e5, h⟩ := le1_ok h
  refine dr_putI I cf2 fD_RX2_24 hR hx e5 dX2_init_26 (fun H locs hR => ?_)
  replace hn := (tq_I e5).1.trans hn
  replace hx := dr_o hx (tq_I e5).1 (tq_I e5).2
  refine lv_aload_n I.1.1 I.1.2.1 dX2_init_29 rfl (lv_at hl 0 rfl) ?_
  refine lv_iconst (v := (3 : Int32)) I.1.1 I.1.2.1 dX2_init_30 (by decide) ?_
  obtain ⟨D6, e6, h⟩ := le1_ok h
  refine dr_newI (N := 3) I wA_int (by decide) rfl (by decide) hR hn (by omega) (Nat.zero_lt_of_lt hx.1) e6 (Nat.le_of_ble_eq_true rfl) (Nat.le_of_ble_eq_true rfl) dX2_init_31 (fun H hR => ?_)
  replace hx := dr_oN hx e6
  have hv6 := dr_new1 hn e6
  replace hn := tq_N hn e6
  refine W.widen (k := 1) (n := 3) (Nat.le_of_ble_eq_true rfl) (Nat.le_of_ble_eq_true rfl) ?_
  obtain ⟨D7, e7, h⟩ := le1_ok h
  refine dr_putP (fun _ => ⟨rfl, rfl⟩) I cf2 fD_RX2_27 hR hx e7 dX2_init_33 (fun H locs hR => ?_)
  replace hn := (tq_P e7).1.trans hn
  replace hx := dr_o hx (tq_P e7).1 (tq_P e7).2
  refine lv_aload_n I.1.1 I.1.2.1 dX2_init_36 rfl (lv_at hl 0 rfl) ?_
  refine lv_iconst (v := (3 : Int32)) I.1.1 I.1.2.1 dX2_init_37 (by decide) ?_
  refine lv_bipush (v := (6 : Int32)) I.1.1 I.1.2.1 dX2_init_38 (by decide) ?_
  obtain ⟨D8, e8, h⟩ := le1_ok h
  refine dr_mna (N := 3) (K := 6) I wM_RX2_31 wA_int (by decide) (by decide) rfl rfl (by decide) (by decide) (by decide) hR hn (by omega) (Nat.zero_lt_of_lt hx.1) e8 (Nat.le_of_ble_eq_true rfl) (Nat.le_of_ble_eq_true rfl) dX2_init_40 (fun H hR => ?_)
  replace hx := dr_oM hx e8
  replace hn := tq_M hn e8
  refine W.widen (k := 5) (n := 24) (Nat.le_of_ble_eq_true rfl) (Nat.le_of_ble_eq_true rfl) ?_
  obtain ⟨D9, e9, h⟩ := le1_ok h
  refine dr_putP (fun _ => ⟨rfl, rfl⟩) I cf2 fD_RX2_33 hR hx e9 dX2_init_44 (fun H locs hR => ?_)
  replace hn := (tq_P e9).1.trans hn
  replace hx := dr_o hx (tq_P e9).1 (tq_P e9).2
  refine lv_aload_n I.1.1 I.1.2.1 dX2_init_47 rfl (lv_at hl 0 rfl) ?_
  refine lv_bipush (v := (6 : Int32)) I.1.1 I.1.2.1 dX2_init_48 (by decide) ?_
  obtain ⟨D10, e10, h⟩ := le1_ok h
  refine dr_newI (N := 6) I wA_int (by decide) rfl (by decide) hR hn (by omega) (Nat.zero_lt_of_lt hx.1) e10 (Nat.le_of_ble_eq_true rfl) (Nat.le_of_ble_eq_true rfl) dX2_init_50 (fun H hR => ?_)
  replace hx := dr_oN hx e10
  have hv10 := dr_new1 hn e10
  replace hn := tq_N hn e10
  refine W.widen (k := 6) (n := 30) (Nat.le_of_ble_eq_true rfl) (Nat.le_of_ble_eq_true rfl) ?_
  obtain ⟨D11, e11, h⟩ := le1_ok h
  refine dr_putP (fun _ => ⟨rfl, rfl⟩) I cf2 fD_RX2_36 hR hx e11 dX2_init_52 (fun H locs hR => ?_)
  replace hn := (tq_P e11).1.trans hn
  replace hx := dr_o hx (tq_P e11).1 (tq_P e11).2
  refine lv_aload_n I.1.1 I.1.2.1 dX2_init_55 rfl (lv_at hl 0 rfl) ?_
  refine lv_bipush (v := (6 : Int32)) I.1.1 I.1.2.1 dX2_init_56 (by decide) ?_
  obtain ⟨D12, e12, h⟩ := le1_ok h
  refine dr_newI (N := 6) I wA_int (by decide) rfl (by decide) hR hn (by omega) (Nat.zero_lt_of_lt hx.1) e12 (Nat.le_of_ble_eq_true rfl) (Nat.le_of_ble_eq_true rfl) dX2_init_58 (fun H hR => ?_)
  replace hx := dr_oN hx e12
  have hv12 := dr_new1 hn e12
  replace hn := tq_N hn e12
  refine W.widen (k := 7) (n := 36) (Nat.le_of_ble_eq_true rfl) (Nat.le_of_ble_eq_true rfl) ?_
  obtain ⟨D13, e13, h⟩ := le1_ok h
  refine dr_putP (fun _ => ⟨rfl, rfl⟩) I cf2 fD_RX2_39 hR hx e13 dX2_init_60 (fun H locs hR => ?_)
  replace hn := (tq_P e13).1.trans hn
  replace hx := dr_o hx (tq_P e13).1 (tq_P e13).2
  refine lv_aload_n I.1.1 I.1.2.1 dX2_init_63 rfl (lv_at hl 0 rfl) ?_
  refine lv_bipush (v := (6 : Int32)) I.1.1 I.1.2.1 dX2_init_64 (by decide) ?_
  obtain ⟨D14, e14, h⟩ := le1_ok h
  refine dr_newI (N := 6) I wA_int (by decide) rfl (by decide) hR hn (by omega) (Nat.zero_lt_of_lt hx.1) e14 (Nat.le_of_ble_eq_true rfl) (Nat.le_of_ble_eq_true rfl) dX2_init_66 (fun H hR => ?_)
  replace hx := dr_oN hx e14
  have hv14 := dr_new1 hn e14
  replace hn := tq_N hn e14
  refine W.widen (k := 8) (n := 42) (Nat.le_of_ble_eq_true rfl) (Nat.le_of_ble_eq_true rfl) ?_
  obtain ⟨D15, e15, h⟩ := le1_ok h
  refine dr_putP (fun _ => ⟨rfl, rfl⟩) I cf2 fD_RX2_42 hR hx e15 dX2_init_68 (fun H locs hR => ?_)
  replace hn := (tq_P e15).1.trans hn
  replace hx := dr_o hx (tq_P e15).1 (tq_P e15).2
  refine lv_aload_n I.1.1 I.1.2.1 dX2_init_71 rfl (lv_at hl 0 rfl) ?_
  refine lv_bipush (v := (6 : Int32)) I.1.1 I.1.2.1 dX2_init_72 (by decide) ?_
  obtain ⟨D16, e16, h⟩ := le1_ok h
  refine dr_newI (N := 6) I wA_int (by decide) rfl (by decide) hR hn (by omega) (Nat.zero_lt_of_lt hx.1) e16 (Nat.le_of_ble_eq_true rfl) (Nat.le_of_ble_eq_true rfl) dX2_init_74 (fun H hR => ?_)
  replace hx := dr_oN hx e16
  have hv16 := dr_new1 hn e16
  replace hn := tq_N hn e16
  refine W.widen (k := 9) (n := 48) (Nat.le_of_ble_eq_true rfl) (Nat.le_of_ble_eq_true rfl) ?_
  obtain ⟨D17, e17, h⟩ := le1_ok h
  refine dr_putP (fun _ => ⟨rfl, rfl⟩) I cf2 fD_RX2_45 hR hx e17 dX2_init_76 (fun H locs hR => ?_)
  replace hn := (tq_P e17).1.trans hn
  replace hx := dr_o hx (tq_P e17).1 (tq_P e17).2
  refine lv_aload_n I.1.1 I.1.2.1 dX2_init_79 rfl (lv_at hl 0 rfl) ?_
  refine lv_bipush (v := (6 : Int32)) I.1.1 I.1.2.1 dX2_init_80 (by decide) ?_
  obtain ⟨D18, e18, h⟩ := le1_ok h
  refine dr_newI (N := 6) I wA_int (by decide) rfl (by decide) hR hn (by omega) (Nat.zero_lt_of_lt hx.1) e18 (Nat.le_of_ble_eq_true rfl) (Nat.le_of_ble_eq_true rfl) dX2_init_82 (fun H hR => ?_)
  replace hx := dr_oN hx e18
  have hv18 := dr_new1 hn e18
  replace hn := tq_N hn e18
  refine W.widen (k := 10) (n := 54) (Nat.le_of_ble_eq_true rfl) (Nat.le_of_ble_eq_true rfl) ?_
  obtain ⟨D19, e19, h⟩ := le1_ok h
  refine dr_putP (fun _ => ⟨rfl, rfl⟩) I cf2 fD_RX2_48 hR hx e19 dX2_init_84 (fun H locs hR => ?_)
  replace hn := (tq_P e19).1.trans hn
  replace hx := dr_o hx (tq_P e19).1 (tq_P e19).2
  refine lv_aload_n I.1.1 I.1.2.1 dX2_init_87 rfl (lv_at hl 0 rfl) ?_
  refine lv_iconst (v := (5 : Int32)) I.1.1 I.1.2.1 dX2_init_88 (by decide) ?_
  obtain ⟨D20, e20, h⟩ := le1_ok h
  refine dr_newI (N := 5) I wA_int (by decide) rfl (by decide) hR hn (by omega) (Nat.zero_lt_of_lt hx.1) e20 (Nat.le_of_ble_eq_true rfl) (Nat.le_of_ble_eq_true rfl) dX2_init_89 (fun H hR => ?_)
  replace hx := dr_oN hx e20
  have hv20 := dr_new1 hn e20
  replace hn := tq_N hn e20
  refine W.widen (k := 11) (n := 59) (Nat.le_of_ble_eq_true rfl) (Nat.le_of_ble_eq_true rfl) ?_
  obtain ⟨D21, e21, h⟩ := le1_ok h
  refine dr_putP (fun _ => ⟨rfl, rfl⟩) I cf2 fD_RX2_51 hR hx e21 dX2_init_91 (fun H locs hR => ?_)
  replace hn := (tq_P e21).1.trans hn
  replace hx := dr_o hx (tq_P e21).1 (tq_P e21).2
  refine lv_aload_n I.1.1 I.1.2.1 dX2_init_94 rfl (lv_at hl 0 rfl) ?_
  refine lv_iconst (v := (5 : Int32)) I.1.1 I.1.2.1 dX2_init_95 (by decide) ?_
  obtain ⟨D22, e22, h⟩ := le1_ok h
  refine dr_newI (N := 5) I wA_int (by decide) rfl (by decide) hR hn (by omega) (Nat.zero_lt_of_lt hx.1) e22 (Nat.le_of_ble_eq_true rfl) (Nat.le_of_ble_eq_true rfl) dX2_init_96 (fun H hR => ?_)
  replace hx := dr_oN hx e22
  have hv22 := dr_new1 hn e22
  replace hn := tq_N hn e22
  refine W.widen (k := 12) (n := 64) (Nat.le_of_ble_eq_true rfl) (Nat.le_of_ble_eq_true rfl) ?_
  obtain ⟨D23, e23, h⟩ := le1_ok h
  refine dr_putP (fun _ => ⟨rfl, rfl⟩) I cf2 fD_RX2_54 hR hx e23 dX2_init_98 (fun H locs hR => ?_)
  replace hn := (tq_P e23).1.trans hn
  replace hx := dr_o hx (tq_P e23).1 (tq_P e23).2
  refine lv_aload_n I.1.1 I.1.2.1 dX2_init_101 rfl (lv_at hl 0 rfl) ?_
  obtain ⟨D24, e24, h⟩ := le1_ok h
  refine dr_new I cf4 wN_RX2_57 rfl dfl_4 hR hn (by omega) (Nat.zero_lt_of_lt hx.1) e24 (Nat.le_of_ble_eq_true rfl) (Nat.le_of_ble_eq_true rfl) dX2_init_102 (fun H hR => ?_)
  replace hx := dr_oN hx e24
  replace hn := tq_N hn e24
  refine W.widen (k := 13) (n := 67) (Nat.le_of_ble_eq_true rfl) (Nat.le_of_ble_eq_true rfl) ?_
  refine lv_dup I.1.1 I.1.2.1 dX2_init_105 rfl ?_
  obtain ⟨D25, e25, h⟩ := ob_ok h
  obtain ⟨hn25, h⟩ := kN_ok h
  obtain ⟨hx25, h⟩ := kO_ok h
  refine dr_callN (As := []) (rest := [.ref (B + (n + 12)), .ref (B + x)]) I (c_X4_init l B E ak av (n + 12) (n + 13) D24 D25 e25) yi_X4_init.1 yi_X4_init.2 wK_RX2_59 rfl rfl rfl hl.1 (Nat.le_of_ble_eq_true rfl) (by decide) (by decide) hR hn (by omega) (Nat.zero_lt_of_lt hx.1) ⟨Nat.le_of_ble_eq_true rfl, Nat.le_of_ble_eq_true rfl⟩ dX2_init_106 (fun H locs hR => ?_)
  replace hn := hn25
  replace hx := hx25
  refine W.widen (k := 15) (n := 1731) (Nat.le_of_ble_eq_true rfl) (Nat.le_of_ble_eq_true rfl) ?_
  obtain ⟨D26, e26, h⟩ := le1_ok h
  refine dr_putP (fun _ => ⟨rfl, rfl⟩) I cf2 fD_RX2_60 hR hx e26 dX2_init_109 (fun H locs hR => ?_)
  replace hn := (tq_P e26).1.trans hn
  replace hx := dr_o hx (tq_P e26).1 (tq_P e26).2
  refine lv_aload_n I.1.1 I.1.2.1 dX2_init_112 rfl (lv_at hl 0 rfl) ?_
  obtain ⟨D27, e27, h⟩ := le1_ok h
  refine dr_new I cf4 wN_RX2_57 rfl dfl_4 hR hn (by omega) (Nat.zero_lt_of_lt hx.1) e27 (Nat.le_of_ble_eq_true rfl) (Nat.le_of_ble_eq_true rfl) dX2_init_113 (fun H hR => ?_)
  replace hx := dr_oN hx e27
  replace hn := tq_N hn e27
  refine W.widen (k := 16) (n := 1734) (Nat.le_of_ble_eq_true rfl) (Nat.le_of_ble_eq_true rfl) ?_
  refine lv_dup I.1.1 I.1.2.1 dX2_init_116 rfl ?_
  obtain ⟨D28, e28, h⟩ := ob_ok h
  obtain ⟨hn28, h⟩ := kN_ok h
  obtain ⟨hx28, h⟩ := kO_ok h
  refine dr_callN (As := []) (rest := [.ref (B + (n + 15)), .ref (B + x)]) I (c_X4_init l B E ak av (n + 15) (n + 16) D27 D28 e28) yi_X4_init.1 yi_X4_init.2 wK_RX2_59 rfl rfl rfl hl.1 (Nat.le_of_ble_eq_true rfl) (by decide) (by decide) hR hn (by omega) (Nat.zero_lt_of_lt hx.1) ⟨Nat.le_of_ble_eq_true rfl, Nat.le_of_ble_eq_true rfl⟩ dX2_init_117 (fun H locs hR => ?_)
  replace hn := hn28
  replace hx := hx28
  refine W.widen (k := 18) (n := 3398) (Nat.le_of_ble_eq_true rfl) (Nat.le_of_ble_eq_true rfl) ?_
  obtain ⟨D29, e29, h⟩ := le1_ok h
  refine dr_putP (fun _ => ⟨rfl, rfl⟩) I cf2 fD_RX2_64 hR hx e29 dX2_init_120 (fun H locs hR => ?_)
  replace hn := (tq_P e29).1.trans hn
  replace hx := dr_o hx (tq_P e29).1 (tq_P e29).2
  exact dr_ret (d := 0) I hR h (Nat.le_of_ble_eq_true rfl) (Nat.le_of_ble_eq_true rfl) dX2_init_123
theorem dX3_init_0 : decode cX3_init 0 = .ok (.aload_n 0, 1) := by decide +kernel
theorem dX3_init_1 : decode cX3_init 1 = .ok (.invokespecial 5, 3) := by decide +kernel
theorem dX3_init_4 : decode cX3_init 4 = .ok (.aload_n 0, 1) := by decide +kernel
theorem dX3_init_5 : decode cX3_init 5 = .ok (.iconst 0, 1) := by decide +kernel
theorem dX3_init_6 : decode cX3_init 6 = .ok (.putfield 11, 3) := by decide +kernel
theorem dX3_init_9 : decode cX3_init 9 = .ok (.aload_n 0, 1) := by decide +kernel
theorem dX3_init_10 : decode cX3_init 10 = .ok (.iconst 0, 1) := by decide +kernel
theorem dX3_init_11 : decode cX3_init 11 = .ok (.putfield 17, 3) := by decide +kernel
theorem dX3_init_14 : decode cX3_init 14 = .ok (.aload_n 0, 1) := by decide +kernel
theorem dX3_init_15 : decode cX3_init 15 = .ok (.aload_n 1, 1) := by decide +kernel
theorem dX3_init_16 : decode cX3_init 16 = .ok (.putfield 20, 3) := by decide +kernel
theorem dX3_init_19 : decode cX3_init 19 = .ok (.aload_n 0, 1) := by decide +kernel
theorem dX3_init_20 : decode cX3_init 20 = .ok (.aload_n 2, 1) := by decide +kernel
theorem dX3_init_21 : decode cX3_init 21 = .ok (.putfield 24, 3) := by decide +kernel
theorem dX3_init_24 : decode cX3_init 24 = .ok (.aload_n 0, 1) := by decide +kernel
theorem dX3_init_25 : decode cX3_init 25 = .ok (.new 28, 3) := by decide +kernel
theorem dX3_init_28 : decode cX3_init 28 = .ok (.dup, 1) := by decide +kernel
theorem dX3_init_29 : decode cX3_init 29 = .ok (.aload_n 1, 1) := by decide +kernel
theorem dX3_init_30 : decode cX3_init 30 = .ok (.aload_n 2, 1) := by decide +kernel
theorem dX3_init_31 : decode cX3_init 31 = .ok (.getfield 30, 3) := by decide +kernel
theorem dX3_init_34 : decode cX3_init 34 = .ok (.invokespecial 36, 3) := by decide +kernel
theorem dX3_init_37 : decode cX3_init 37 = .ok (.putfield 39, 3) := by decide +kernel
theorem dX3_init_40 : decode cX3_init 40 = .ok (.return_, 1) := by decide +kernel
def f_X3_init (x n y1 y2 : Nat) (D : Dp) : Option Dp :=
  kN D n (kO D x 1 3 (le1 (dyI D x 3 (0 : Int32)) (fun D1 => le1 (dyI D1 x 4 (0 : Int32)) (fun D2 => le1 (dyP D2 x 0 y1) (fun D3 => le1 (dyP D3 x 2 y2) (fun D4 => le1 (dyN D4 1 7) (fun D5 => kO D5 y2 1 2 (lQ D5 y2 14 (fun z6 => ob (f_X7_init n (n + 1) y1 z6 D5) (fun D7 => kN D7 (n + 1) (kO D7 x 1 3 (le1 (dyP D7 x 1 n) (fun D8 => some D8)))))))))))))
set_option maxHeartbeats 4000000 in
set_option maxRecDepth 100000 in
theorem c_X3_init (l : Launch) (B : Nat) (E : Ev) (ak av : Nat → Nat) (x n y1 y2 : Nat) (D r : Dp) (h : f_X3_init x n y1 y2 D = some r) : dy_M l B E ak av yX3_init cX3_init 3 2 1 3 [.ref (B + x), .ref (B + y1), .ref (B + y2)] n D r := by
  refine dy_in (by decide) rfl (Nat.le_of_ble_eq_true rfl) ?_
  intro p e s m args below meth c I hR ls hl
  have I : dy_I p s m args meth c RX3 cX3_init 3 B n ak av := I
  have hl : lv_has ls 3 [(0, .ref (B + x)), (1, .ref (B + y1)), (2, .ref (B + y2))] := hl
  unfold f_X3_init at h
  obtain ⟨hn, h⟩ := kN_ok h
  obtain ⟨hx, h⟩ := kO_ok h
  refine lv_aload_n I.1.1 I.1.2.1 dX3_init_0 rfl (lv_at hl 0 rfl) ?_
  refine dr_obj I wo_RX3 wO_in wO_co hl.1 (by decide) dX3_init_1 ?_
  refine lv_aload_n I.1.1 I.1.2.1 dX3_init_4 rfl (lv_at hl 0 rfl) ?_
  refine lv_iconst (v := (0 : Int32)) I.1.1 I.1.2.1 dX3_init_5 (by decide) ?_
  obtain ⟨D1, e1, h⟩ := le1_ok h
  refine dr_putI I cf3 fD_RX3_11 hR hx e1 dX3_init_6 (fun H locs hR => ?_)
  replace hn := (tq_I e1).1.trans hn
  replace hx := dr_o hx (tq_I e1).1 (tq_I e1).2
  refine lv_aload_n I.1.1 I.1.2.1 dX3_init_9 rfl (lv_at hl 0 rfl) ?_
  refine lv_iconst (v := (0 : Int32)) I.1.1 I.1.2.1 dX3_init_10 (by decide) ?_
  obtain ⟨D2, e2, h⟩ := le1_ok h
  refine dr_putI I cf3 fD_RX3_17 hR hx e2 dX3_init_11 (fun H locs hR => ?_)
  replace hn := (tq_I e2).1.trans hn
  replace hx := dr_o hx (tq_I e2).1 (tq_I e2).2
  refine lv_aload_n I.1.1 I.1.2.1 dX3_init_14 rfl (lv_at hl 0 rfl) ?_
  refine lv_aload_n I.1.1 I.1.2.1 dX3_init_15 rfl (lv_at hl 1 rfl) ?_
  obtain ⟨D3, e3, h⟩ := le1_ok h
  refine dr_putP (fun _ => ⟨rfl, rfl⟩) I cf3 fD_RX3_20 hR hx e3 dX3_init_16 (fun H locs hR => ?_)
  replace hn := (tq_P e3).1.trans hn
  replace hx := dr_o hx (tq_P e3).1 (tq_P e3).2
  refine lv_aload_n I.1.1 I.1.2.1 dX3_init_19 rfl (lv_at hl 0 rfl) ?_
  refine lv_aload_n I.1.1 I.1.2.1 dX3_init_20 rfl (lv_at hl 2 rfl) ?_
  obtain ⟨D4, e4, h⟩ := le1_ok h
  refine dr_putP (fun _ => ⟨rfl, rfl⟩) I cf3 fD_RX3_24 hR hx e4 dX3_init_21 (fun H locs hR => ?_)
  replace hn := (tq_P e4).1.trans hn
  replace hx := dr_o hx (tq_P e4).1 (tq_P e4).2
  refine lv_aload_n I.1.1 I.1.2.1 dX3_init_24 rfl (lv_at hl 0 rfl) ?_
  obtain ⟨D5, e5, h⟩ := le1_ok h
  refine dr_new I cf7 wN_RX3_28 rfl dfl_7 hR hn (by omega) (Nat.zero_lt_of_lt hx.1) e5 (Nat.le_of_ble_eq_true rfl) (Nat.le_of_ble_eq_true rfl) dX3_init_25 (fun H hR => ?_)
  replace hx := dr_oN hx e5
  replace hn := tq_N hn e5
  refine W.widen (k := 1) (n := 3) (Nat.le_of_ble_eq_true rfl) (Nat.le_of_ble_eq_true rfl) ?_
  refine lv_dup I.1.1 I.1.2.1 dX3_init_28 rfl ?_
  refine lv_aload_n I.1.1 I.1.2.1 dX3_init_29 rfl (lv_at hl 1 rfl) ?_
  refine lv_aload_n I.1.1 I.1.2.1 dX3_init_30 rfl (lv_at hl 2 rfl) ?_
  obtain ⟨hy6, h⟩ := kO_ok h
  obtain ⟨z6, ez6, h⟩ := lQ_ok h
  refine dr_getG I cf2 fD_RX3_30 hR hy6 ez6 dX3_init_31 ?_
  obtain ⟨D7, e7, h⟩ := ob_ok h
  obtain ⟨hn7, h⟩ := kN_ok h
  obtain ⟨hx7, h⟩ := kO_ok h
  refine dr_callI (As := [.ref (B + y1), .ref (B + z6)]) (rest := [.ref (B + n), .ref (B + x)]) I (c_X7_init l B E ak av n (n + 1) y1 z6 D5 D7 e7) yi_X7_init.1 yi_X7_init.2 wK_RX3_36 rfl rfl rfl hl.1 (Nat.le_of_ble_eq_true rfl) (by decide) (by decide) hR hn (by omega) (Nat.zero_lt_of_lt hx.1) ⟨Nat.le_of_ble_eq_true rfl, Nat.le_of_ble_eq_true rfl⟩ dX3_init_34 (fun H locs hR => ?_)
  replace hn := hn7
  replace hx := hx7
  refine W.widen (k := 1) (n := 3) (Nat.le_of_ble_eq_true rfl) (Nat.le_of_ble_eq_true rfl) ?_
  obtain ⟨D8, e8, h⟩ := le1_ok h
  refine dr_putP (fun _ => ⟨rfl, rfl⟩) I cf3 fD_RX3_39 hR hx e8 dX3_init_37 (fun H locs hR => ?_)
  replace hn := (tq_P e8).1.trans hn
  replace hx := dr_o hx (tq_P e8).1 (tq_P e8).2
  exact dr_ret (d := 0) I hR h (Nat.le_of_ble_eq_true rfl) (Nat.le_of_ble_eq_true rfl) dX3_init_40
theorem dX0_init_0 : decode cX0_init 0 = .ok (.aload_n 0, 1) := by decide +kernel
theorem dX0_init_1 : decode cX0_init 1 = .ok (.invokespecial 3, 3) := by decide +kernel
theorem dX0_init_4 : decode cX0_init 4 = .ok (.aload_n 0, 1) := by decide +kernel
theorem dX0_init_5 : decode cX0_init 5 = .ok (.bipush 61, 2) := by decide +kernel
theorem dX0_init_7 : decode cX0_init 7 = .ok (.newarray .int, 2) := by decide +kernel
theorem dX0_init_9 : decode cX0_init 9 = .ok (.putfield 9, 3) := by decide +kernel
theorem dX0_init_12 : decode cX0_init 12 = .ok (.aload_n 0, 1) := by decide +kernel
theorem dX0_init_13 : decode cX0_init 13 = .ok (.bipush 61, 2) := by decide +kernel
theorem dX0_init_15 : decode cX0_init 15 = .ok (.newarray .int, 2) := by decide +kernel
theorem dX0_init_17 : decode cX0_init 17 = .ok (.putfield 15, 3) := by decide +kernel
theorem dX0_init_20 : decode cX0_init 20 = .ok (.aload_n 0, 1) := by decide +kernel
theorem dX0_init_21 : decode cX0_init 21 = .ok (.bipush 61, 2) := by decide +kernel
theorem dX0_init_23 : decode cX0_init 23 = .ok (.newarray .int, 2) := by decide +kernel
theorem dX0_init_25 : decode cX0_init 25 = .ok (.putfield 18, 3) := by decide +kernel
theorem dX0_init_28 : decode cX0_init 28 = .ok (.aload_n 0, 1) := by decide +kernel
theorem dX0_init_29 : decode cX0_init 29 = .ok (.bipush 61, 2) := by decide +kernel
theorem dX0_init_31 : decode cX0_init 31 = .ok (.newarray .int, 2) := by decide +kernel
theorem dX0_init_33 : decode cX0_init 33 = .ok (.putfield 21, 3) := by decide +kernel
theorem dX0_init_36 : decode cX0_init 36 = .ok (.aload_n 0, 1) := by decide +kernel
theorem dX0_init_37 : decode cX0_init 37 = .ok (.iconst 4, 1) := by decide +kernel
theorem dX0_init_38 : decode cX0_init 38 = .ok (.newarray .int, 2) := by decide +kernel
theorem dX0_init_40 : decode cX0_init 40 = .ok (.putfield 24, 3) := by decide +kernel
theorem dX0_init_43 : decode cX0_init 43 = .ok (.aload_n 0, 1) := by decide +kernel
theorem dX0_init_44 : decode cX0_init 44 = .ok (.new 27, 3) := by decide +kernel
theorem dX0_init_47 : decode cX0_init 47 = .ok (.dup, 1) := by decide +kernel
theorem dX0_init_48 : decode cX0_init 48 = .ok (.invokespecial 29, 3) := by decide +kernel
theorem dX0_init_51 : decode cX0_init 51 = .ok (.putfield 30, 3) := by decide +kernel
theorem dX0_init_54 : decode cX0_init 54 = .ok (.aload_n 0, 1) := by decide +kernel
theorem dX0_init_55 : decode cX0_init 55 = .ok (.new 27, 3) := by decide +kernel
theorem dX0_init_58 : decode cX0_init 58 = .ok (.dup, 1) := by decide +kernel
theorem dX0_init_59 : decode cX0_init 59 = .ok (.invokespecial 29, 3) := by decide +kernel
theorem dX0_init_62 : decode cX0_init 62 = .ok (.putfield 34, 3) := by decide +kernel
theorem dX0_init_65 : decode cX0_init 65 = .ok (.aload_n 0, 1) := by decide +kernel
theorem dX0_init_66 : decode cX0_init 66 = .ok (.new 27, 3) := by decide +kernel
theorem dX0_init_69 : decode cX0_init 69 = .ok (.dup, 1) := by decide +kernel
theorem dX0_init_70 : decode cX0_init 70 = .ok (.invokespecial 29, 3) := by decide +kernel
theorem dX0_init_73 : decode cX0_init 73 = .ok (.putfield 37, 3) := by decide +kernel
theorem dX0_init_76 : decode cX0_init 76 = .ok (.aload_n 0, 1) := by decide +kernel
theorem dX0_init_77 : decode cX0_init 77 = .ok (.new 27, 3) := by decide +kernel
theorem dX0_init_80 : decode cX0_init 80 = .ok (.dup, 1) := by decide +kernel
theorem dX0_init_81 : decode cX0_init 81 = .ok (.invokespecial 29, 3) := by decide +kernel
theorem dX0_init_84 : decode cX0_init 84 = .ok (.putfield 40, 3) := by decide +kernel
theorem dX0_init_87 : decode cX0_init 87 = .ok (.aload_n 0, 1) := by decide +kernel
theorem dX0_init_88 : decode cX0_init 88 = .ok (.bipush 6, 2) := by decide +kernel
theorem dX0_init_90 : decode cX0_init 90 = .ok (.newarray .int, 2) := by decide +kernel
theorem dX0_init_92 : decode cX0_init 92 = .ok (.putfield 43, 3) := by decide +kernel
theorem dX0_init_95 : decode cX0_init 95 = .ok (.aload_n 0, 1) := by decide +kernel
theorem dX0_init_96 : decode cX0_init 96 = .ok (.bipush 6, 2) := by decide +kernel
theorem dX0_init_98 : decode cX0_init 98 = .ok (.newarray .int, 2) := by decide +kernel
theorem dX0_init_100 : decode cX0_init 100 = .ok (.putfield 46, 3) := by decide +kernel
theorem dX0_init_103 : decode cX0_init 103 = .ok (.aload_n 0, 1) := by decide +kernel
theorem dX0_init_104 : decode cX0_init 104 = .ok (.bipush 6, 2) := by decide +kernel
theorem dX0_init_106 : decode cX0_init 106 = .ok (.newarray .int, 2) := by decide +kernel
theorem dX0_init_108 : decode cX0_init 108 = .ok (.putfield 49, 3) := by decide +kernel
theorem dX0_init_111 : decode cX0_init 111 = .ok (.aload_n 0, 1) := by decide +kernel
theorem dX0_init_112 : decode cX0_init 112 = .ok (.bipush 6, 2) := by decide +kernel
theorem dX0_init_114 : decode cX0_init 114 = .ok (.newarray .int, 2) := by decide +kernel
theorem dX0_init_116 : decode cX0_init 116 = .ok (.putfield 52, 3) := by decide +kernel
theorem dX0_init_119 : decode cX0_init 119 = .ok (.aload_n 0, 1) := by decide +kernel
theorem dX0_init_120 : decode cX0_init 120 = .ok (.iconst (-1), 1) := by decide +kernel
theorem dX0_init_121 : decode cX0_init 121 = .ok (.putfield 55, 3) := by decide +kernel
theorem dX0_init_124 : decode cX0_init 124 = .ok (.aload_n 0, 1) := by decide +kernel
theorem dX0_init_125 : decode cX0_init 125 = .ok (.iconst 0, 1) := by decide +kernel
theorem dX0_init_126 : decode cX0_init 126 = .ok (.putfield 59, 3) := by decide +kernel
theorem dX0_init_129 : decode cX0_init 129 = .ok (.aload_n 0, 1) := by decide +kernel
theorem dX0_init_130 : decode cX0_init 130 = .ok (.aload_n 1, 1) := by decide +kernel
theorem dX0_init_131 : decode cX0_init 131 = .ok (.putfield 63, 3) := by decide +kernel
theorem dX0_init_134 : decode cX0_init 134 = .ok (.return_, 1) := by decide +kernel
def f_X0_init (x n y1 : Nat) (D : Dp) : Option Dp :=
  kN D n (kO D x 1 0 (le1 (dyN D 4 61) (fun D1 => le1 (dyP D1 x 0 n) (fun D2 => le1 (dyN D2 4 61) (fun D3 => le1 (dyP D3 x 1 (n + 1)) (fun D4 => le1 (dyN D4 4 61) (fun D5 => le1 (dyP D5 x 2 (n + 2)) (fun D6 => le1 (dyN D6 4 61) (fun D7 => le1 (dyP D7 x 3 (n + 3)) (fun D8 => le1 (dyN D8 4 4) (fun D9 => le1 (dyP D9 x 4 (n + 4)) (fun D10 => le1 (dyN D10 1 9) (fun D11 => ob (f_X9_init (n + 5) (n + 6) D11) (fun D12 => kN D12 (n + 11) (kO D12 x 1 0 (le1 (dyP D12 x 6 (n + 5)) (fun D13 => le1 (dyN D13 1 9) (fun D14 => ob (f_X9_init (n + 11) (n + 12) D14) (fun D15 => kN D15 (n + 17) (kO D15 x 1 0 (le1 (dyP D15 x 7 (n + 11)) (fun D16 => le1 (dyN D16 1 9) (fun D17 => ob (f_X9_init (n + 17) (n + 18) D17) (fun D18 => kN D18 (n + 23) (kO D18 x 1 0 (le1 (dyP D18 x 8 (n + 17)) (fun D19 => le1 (dyN D19 1 9) (fun D20 => ob (f_X9_init (n + 23) (n + 24) D20) (fun D21 => kN D21 (n + 29) (kO D21 x 1 0 (le1 (dyP D21 x 9 (n + 23)) (fun D22 => le1 (dyN D22 4 6) (fun D23 => le1 (dyP D23 x 10 (n + 29)) (fun D24 => le1 (dyN D24 4 6) (fun D25 => le1 (dyP D25 x 11 (n + 30)) (fun D26 => le1 (dyN D26 4 6) (fun D27 => le1 (dyP D27 x 12 (n + 31)) (fun D28 => le1 (dyN D28 4 6) (fun D29 => le1 (dyP D29 x 13 (n + 32)) (fun D30 => le1 (dyI D30 x 14 (-1 : Int32)) (fun D31 => le1 (dyI D31 x 15 (0 : Int32)) (fun D32 => le1 (dyP D32 x 5 y1) (fun D33 => some D33)))))))))))))))))))))))))))))))))))))))))))
set_option maxHeartbeats 4000000 in
set_option maxRecDepth 100000 in
theorem c_X0_init (l : Launch) (B : Nat) (E : Ev) (ak av : Nat → Nat) (x n y1 : Nat) (D r : Dp) (h : f_X0_init x n y1 D = some r) : dy_M l B E ak av yX0_init cX0_init 2 2 33 760 [.ref (B + x), .ref (B + y1)] n D r := by
  refine dy_in (by decide) rfl (Nat.le_of_ble_eq_true rfl) ?_
  intro p e s m args below meth c I hR ls hl
  have I : dy_I p s m args meth c RX0 cX0_init 2 B n ak av := I
  have hl : lv_has ls 2 [(0, .ref (B + x)), (1, .ref (B + y1))] := hl
  unfold f_X0_init at h
  obtain ⟨hn, h⟩ := kN_ok h
  obtain ⟨hx, h⟩ := kO_ok h
  refine lv_aload_n I.1.1 I.1.2.1 dX0_init_0 rfl (lv_at hl 0 rfl) ?_
  refine dr_obj I wo_RX0 wO_in wO_co hl.1 (by decide) dX0_init_1 ?_
  refine lv_aload_n I.1.1 I.1.2.1 dX0_init_4 rfl (lv_at hl 0 rfl) ?_
  refine lv_bipush (v := (61 : Int32)) I.1.1 I.1.2.1 dX0_init_5 (by decide) ?_
  obtain ⟨D1, e1, h⟩ := le1_ok h
  refine dr_newI (N := 61) I wA_int (by decide) rfl (by decide) hR hn (by omega) (Nat.zero_lt_of_lt hx.1) e1 (Nat.le_of_ble_eq_true rfl) (Nat.le_of_ble_eq_true rfl) dX0_init_7 (fun H hR => ?_)
  replace hx := dr_oN hx e1
  have hv1 := dr_new1 hn e1
  replace hn := tq_N hn e1
  refine W.widen (k := 1) (n := 61) (Nat.le_of_ble_eq_true rfl) (Nat.le_of_ble_eq_true rfl) ?_
  obtain ⟨D2, e2, h⟩ := le1_ok h
  refine dr_putP (fun _ => ⟨rfl, rfl⟩) I cf0 fD_RX0_9 hR hx e2 dX0_init_9 (fun H locs hR => ?_)
  replace hn := (tq_P e2).1.trans hn
  replace hx := dr_o hx (tq_P e2).1 (tq_P e2).2
  refine lv_aload_n I.1.1 I.1.2.1 dX0_init_12 rfl (lv_at hl 0 rfl) ?_
  refine lv_bipush (v := (61 : Int32)) I.1.1 I.1.2.1 dX0_init_13 (by decide) ?_
  obtain ⟨D3, e3, h⟩ := le1_ok h
  refine dr_newI (N := 61) I wA_int (by decide) rfl (by decide) hR hn (by omega) (Nat.zero_lt_of_lt hx.1) e3 (Nat.le_of_ble_eq_true rfl) (Nat.le_of_ble_eq_true rfl) dX0_init_15 (fun H hR => ?_)
  replace hx := dr_oN hx e3
  have hv3 := dr_new1 hn e3
  replace hn := tq_N hn e3
  refine W.widen (k := 2) (n := 122) (Nat.le_of_ble_eq_true rfl) (Nat.le_of_ble_eq_true rfl) ?_
  obtain ⟨D4, e4, h⟩ := le1_ok h
  refine dr_putP (fun _ => ⟨rfl, rfl⟩) I cf0 fD_RX0_15 hR hx e4 dX0_init_17 (fun H locs hR => ?_)
  replace hn := (tq_P e4).1.trans hn
  replace hx := dr_o hx (tq_P e4).1 (tq_P e4).2
  refine lv_aload_n I.1.1 I.1.2.1 dX0_init_20 rfl (lv_at hl 0 rfl) ?_
  refine lv_bipush (v := (61 : Int32)) I.1.1 I.1.2.1 dX0_init_21 (by decide) ?_
  obtain ⟨D5, e5, h⟩ := le1_ok h
  refine dr_newI (N := 61) I wA_int (by decide) rfl (by decide) hR hn (by omega) (Nat.zero_lt_of_lt hx.1) e5 (Nat.le_of_ble_eq_true rfl) (Nat.le_of_ble_eq_true rfl) dX0_init_23 (fun H hR => ?_)
  replace hx := dr_oN hx e5
  have hv5 := dr_new1 hn e5
  replace hn := tq_N hn e5
  refine W.widen (k := 3) (n := 183) (Nat.le_of_ble_eq_true rfl) (Nat.le_of_ble_eq_true rfl) ?_
  obtain ⟨D6, e6, h⟩ := le1_ok h
  refine dr_putP (fun _ => ⟨rfl, rfl⟩) I cf0 fD_RX0_18 hR hx e6 dX0_init_25 (fun H locs hR => ?_)
  replace hn := (tq_P e6).1.trans hn
  replace hx := dr_o hx (tq_P e6).1 (tq_P e6).2
  refine lv_aload_n I.1.1 I.1.2.1 dX0_init_28 rfl (lv_at hl 0 rfl) ?_
  refine lv_bipush (v := (61 : Int32)) I.1.1 I.1.2.1 dX0_init_29 (by decide) ?_
  obtain ⟨D7, e7, h⟩ := le1_ok h
  refine dr_newI (N := 61) I wA_int (by decide) rfl (by decide) hR hn (by omega) (Nat.zero_lt_of_lt hx.1) e7 (Nat.le_of_ble_eq_true rfl) (Nat.le_of_ble_eq_true rfl) dX0_init_31 (fun H hR => ?_)
  replace hx := dr_oN hx e7
  have hv7 := dr_new1 hn e7
  replace hn := tq_N hn e7
  refine W.widen (k := 4) (n := 244) (Nat.le_of_ble_eq_true rfl) (Nat.le_of_ble_eq_true rfl) ?_
  obtain ⟨D8, e8, h⟩ := le1_ok h
  refine dr_putP (fun _ => ⟨rfl, rfl⟩) I cf0 fD_RX0_21 hR hx e8 dX0_init_33 (fun H locs hR => ?_)
  replace hn := (tq_P e8).1.trans hn
  replace hx := dr_o hx (tq_P e8).1 (tq_P e8).2
  refine lv_aload_n I.1.1 I.1.2.1 dX0_init_36 rfl (lv_at hl 0 rfl) ?_
  refine lv_iconst (v := (4 : Int32)) I.1.1 I.1.2.1 dX0_init_37 (by decide) ?_
  obtain ⟨D9, e9, h⟩ := le1_ok h
  refine dr_newI (N := 4) I wA_int (by decide) rfl (by decide) hR hn (by omega) (Nat.zero_lt_of_lt hx.1) e9 (Nat.le_of_ble_eq_true rfl) (Nat.le_of_ble_eq_true rfl) dX0_init_38 (fun H hR => ?_)
  replace hx := dr_oN hx e9
  have hv9 := dr_new1 hn e9
  replace hn := tq_N hn e9
  refine W.widen (k := 5) (n := 248) (Nat.le_of_ble_eq_true rfl) (Nat.le_of_ble_eq_true rfl) ?_
  obtain ⟨D10, e10, h⟩ := le1_ok h
  refine dr_putP (fun _ => ⟨rfl, rfl⟩) I cf0 fD_RX0_24 hR hx e10 dX0_init_40 (fun H locs hR => ?_)
  replace hn := (tq_P e10).1.trans hn
  replace hx := dr_o hx (tq_P e10).1 (tq_P e10).2
  refine lv_aload_n I.1.1 I.1.2.1 dX0_init_43 rfl (lv_at hl 0 rfl) ?_
  obtain ⟨D11, e11, h⟩ := le1_ok h
  refine dr_new I cf9 wN_RX0_27 rfl dfl_9 hR hn (by omega) (Nat.zero_lt_of_lt hx.1) e11 (Nat.le_of_ble_eq_true rfl) (Nat.le_of_ble_eq_true rfl) dX0_init_44 (fun H hR => ?_)
  replace hx := dr_oN hx e11
  replace hn := tq_N hn e11
  refine W.widen (k := 6) (n := 257) (Nat.le_of_ble_eq_true rfl) (Nat.le_of_ble_eq_true rfl) ?_
  refine lv_dup I.1.1 I.1.2.1 dX0_init_47 rfl ?_
  obtain ⟨D12, e12, h⟩ := ob_ok h
  obtain ⟨hn12, h⟩ := kN_ok h
  obtain ⟨hx12, h⟩ := kO_ok h
  refine dr_callN (As := []) (rest := [.ref (B + (n + 5)), .ref (B + x)]) I (c_X9_init l B E ak av (n + 5) (n + 6) D11 D12 e12) yi_X9_init.1 yi_X9_init.2 wK_RX0_29 rfl rfl rfl hl.1 (Nat.le_of_ble_eq_true rfl) (by decide) (by decide) hR hn (by omega) (Nat.zero_lt_of_lt hx.1) ⟨Nat.le_of_ble_eq_true rfl, Nat.le_of_ble_eq_true rfl⟩ dX0_init_48 (fun H locs hR => ?_)
  replace hn := hn12
  replace hx := hx12
  refine W.widen (k := 11) (n := 370) (Nat.le_of_ble_eq_true rfl) (Nat.le_of_ble_eq_true rfl) ?_
  obtain ⟨D13, e13, h⟩ := le1_ok h
  refine dr_putP (fun _ => ⟨rfl, rfl⟩) I cf0 fD_RX0_30 hR hx e13 dX0_init_51 (fun H locs hR => ?_)
  replace hn := (tq_P e13).1.trans hn
  replace hx := dr_o hx (tq_P e13).1 (tq_P e13).2
  refine lv_aload_n I.1.1 I.1.2.1 dX0_init_54 rfl (lv_at hl 0 rfl) ?_
  obtain ⟨D14, e14, h⟩ := le1_ok h
  refine dr_new I cf9 wN_RX0_27 rfl dfl_9 hR hn (by omega) (Nat.zero_lt_of_lt hx.1) e14 (Nat.le_of_ble_eq_true rfl) (Nat.le_of_ble_eq_true rfl) dX0_init_55 (fun H hR => ?_)
  replace hx := dr_oN hx e14
  replace hn := tq_N hn e14
  refine W.widen (k := 12) (n := 379) (Nat.le_of_ble_eq_true rfl) (Nat.le_of_ble_eq_true rfl) ?_
  refine lv_dup I.1.1 I.1.2.1 dX0_init_58 rfl ?_
  obtain ⟨D15, e15, h⟩ := ob_ok h
  obtain ⟨hn15, h⟩ := kN_ok h
  obtain ⟨hx15, h⟩ := kO_ok h
  refine dr_callN (As := []) (rest := [.ref (B + (n + 11)), .ref (B + x)]) I (c_X9_init l B E ak av (n + 11) (n + 12) D14 D15 e15) yi_X9_init.1 yi_X9_init.2 wK_RX0_29 rfl rfl rfl hl.1 (Nat.le_of_ble_eq_true rfl) (by decide) (by decide) hR hn (by omega) (Nat.zero_lt_of_lt hx.1) ⟨Nat.le_of_ble_eq_true rfl, Nat.le_of_ble_eq_true rfl⟩ dX0_init_59 (fun H locs hR => ?_)
  replace hn := hn15
  replace hx := hx15
  refine W.widen (k := 17) (n := 492) (Nat.le_of_ble_eq_true rfl) (Nat.le_of_ble_eq_true rfl) ?_
  obtain ⟨D16, e16, h⟩ := le1_ok h
  refine dr_putP (fun _ => ⟨rfl, rfl⟩) I cf0 fD_RX0_34 hR hx e16 dX0_init_62 (fun H locs hR => ?_)
  replace hn := (tq_P e16).1.trans hn
  replace hx := dr_o hx (tq_P e16).1 (tq_P e16).2
  refine lv_aload_n I.1.1 I.1.2.1 dX0_init_65 rfl (lv_at hl 0 rfl) ?_
  obtain ⟨D17, e17, h⟩ := le1_ok h
  refine dr_new I cf9 wN_RX0_27 rfl dfl_9 hR hn (by omega) (Nat.zero_lt_of_lt hx.1) e17 (Nat.le_of_ble_eq_true rfl) (Nat.le_of_ble_eq_true rfl) dX0_init_66 (fun H hR => ?_)
  replace hx := dr_oN hx e17
  replace hn := tq_N hn e17
  refine W.widen (k := 18) (n := 501) (Nat.le_of_ble_eq_true rfl) (Nat.le_of_ble_eq_true rfl) ?_
  refine lv_dup I.1.1 I.1.2.1 dX0_init_69 rfl ?_
  obtain ⟨D18, e18, h⟩ := ob_ok h
  obtain ⟨hn18, h⟩ := kN_ok h
  obtain ⟨hx18, h⟩ := kO_ok h
  refine dr_callN (As := []) (rest := [.ref (B + (n + 17)), .ref (B + x)]) I (c_X9_init l B E ak av (n + 17) (n + 18) D17 D18 e18) yi_X9_init.1 yi_X9_init.2 wK_RX0_29 rfl rfl rfl hl.1 (Nat.le_of_ble_eq_true rfl) (by decide) (by decide) hR hn (by omega) (Nat.zero_lt_of_lt hx.1) ⟨Nat.le_of_ble_eq_true rfl, Nat.le_of_ble_eq_true rfl⟩ dX0_init_70 (fun H locs hR => ?_)
  replace hn := hn18
  replace hx := hx18
  refine W.widen (k := 23) (n := 614) (Nat.le_of_ble_eq_true rfl) (Nat.le_of_ble_eq_true rfl) ?_
  obtain ⟨D19, e19, h⟩ := le1_ok h
  refine dr_putP (fun _ => ⟨rfl, rfl⟩) I cf0 fD_RX0_37 hR hx e19 dX0_init_73 (fun H locs hR => ?_)
  replace hn := (tq_P e19).1.trans hn
  replace hx := dr_o hx (tq_P e19).1 (tq_P e19).2
  refine lv_aload_n I.1.1 I.1.2.1 dX0_init_76 rfl (lv_at hl 0 rfl) ?_
  obtain ⟨D20, e20, h⟩ := le1_ok h
  refine dr_new I cf9 wN_RX0_27 rfl dfl_9 hR hn (by omega) (Nat.zero_lt_of_lt hx.1) e20 (Nat.le_of_ble_eq_true rfl) (Nat.le_of_ble_eq_true rfl) dX0_init_77 (fun H hR => ?_)
  replace hx := dr_oN hx e20
  replace hn := tq_N hn e20
  refine W.widen (k := 24) (n := 623) (Nat.le_of_ble_eq_true rfl) (Nat.le_of_ble_eq_true rfl) ?_
  refine lv_dup I.1.1 I.1.2.1 dX0_init_80 rfl ?_
  obtain ⟨D21, e21, h⟩ := ob_ok h
  obtain ⟨hn21, h⟩ := kN_ok h
  obtain ⟨hx21, h⟩ := kO_ok h
  refine dr_callN (As := []) (rest := [.ref (B + (n + 23)), .ref (B + x)]) I (c_X9_init l B E ak av (n + 23) (n + 24) D20 D21 e21) yi_X9_init.1 yi_X9_init.2 wK_RX0_29 rfl rfl rfl hl.1 (Nat.le_of_ble_eq_true rfl) (by decide) (by decide) hR hn (by omega) (Nat.zero_lt_of_lt hx.1) ⟨Nat.le_of_ble_eq_true rfl, Nat.le_of_ble_eq_true rfl⟩ dX0_init_81 (fun H locs hR => ?_)
  replace hn := hn21
  replace hx := hx21
  refine W.widen (k := 29) (n := 736) (Nat.le_of_ble_eq_true rfl) (Nat.le_of_ble_eq_true rfl) ?_
  obtain ⟨D22, e22, h⟩ := le1_ok h
  refine dr_putP (fun _ => ⟨rfl, rfl⟩) I cf0 fD_RX0_40 hR hx e22 dX0_init_84 (fun H locs hR => ?_)
  replace hn := (tq_P e22).1.trans hn
  replace hx := dr_o hx (tq_P e22).1 (tq_P e22).2
  refine lv_aload_n I.1.1 I.1.2.1 dX0_init_87 rfl (lv_at hl 0 rfl) ?_
  refine lv_bipush (v := (6 : Int32)) I.1.1 I.1.2.1 dX0_init_88 (by decide) ?_
  obtain ⟨D23, e23, h⟩ := le1_ok h
  refine dr_newI (N := 6) I wA_int (by decide) rfl (by decide) hR hn (by omega) (Nat.zero_lt_of_lt hx.1) e23 (Nat.le_of_ble_eq_true rfl) (Nat.le_of_ble_eq_true rfl) dX0_init_90 (fun H hR => ?_)
  replace hx := dr_oN hx e23
  have hv23 := dr_new1 hn e23
  replace hn := tq_N hn e23
  refine W.widen (k := 30) (n := 742) (Nat.le_of_ble_eq_true rfl) (Nat.le_of_ble_eq_true rfl) ?_
  obtain ⟨D24, e24, h⟩ := le1_ok h
  refine dr_putP (fun _ => ⟨rfl, rfl⟩) I cf0 fD_RX0_43 hR hx e24 dX0_init_92 (fun H locs hR => ?_)
  replace hn := (tq_P e24).1.trans hn
  replace hx := dr_o hx (tq_P e24).1 (tq_P e24).2
  refine lv_aload_n I.1.1 I.1.2.1 dX0_init_95 rfl (lv_at hl 0 rfl) ?_
  refine lv_bipush (v := (6 : Int32)) I.1.1 I.1.2.1 dX0_init_96 (by decide) ?_
  obtain ⟨D25, e25, h⟩ := le1_ok h
  refine dr_newI (N := 6) I wA_int (by decide) rfl (by decide) hR hn (by omega) (Nat.zero_lt_of_lt hx.1) e25 (Nat.le_of_ble_eq_true rfl) (Nat.le_of_ble_eq_true rfl) dX0_init_98 (fun H hR => ?_)
  replace hx := dr_oN hx e25
  have hv25 := dr_new1 hn e25
  replace hn := tq_N hn e25
  refine W.widen (k := 31) (n := 748) (Nat.le_of_ble_eq_true rfl) (Nat.le_of_ble_eq_true rfl) ?_
  obtain ⟨D26, e26, h⟩ := le1_ok h
  refine dr_putP (fun _ => ⟨rfl, rfl⟩) I cf0 fD_RX0_46 hR hx e26 dX0_init_100 (fun H locs hR => ?_)
  replace hn := (tq_P e26).1.trans hn
  replace hx := dr_o hx (tq_P e26).1 (tq_P e26).2
  refine lv_aload_n I.1.1 I.1.2.1 dX0_init_103 rfl (lv_at hl 0 rfl) ?_
  refine lv_bipush (v := (6 : Int32)) I.1.1 I.1.2.1 dX0_init_104 (by decide) ?_
  obtain ⟨D27, e27, h⟩ := le1_ok h
  refine dr_newI (N := 6) I wA_int (by decide) rfl (by decide) hR hn (by omega) (Nat.zero_lt_of_lt hx.1) e27 (Nat.le_of_ble_eq_true rfl) (Nat.le_of_ble_eq_true rfl) dX0_init_106 (fun H hR => ?_)
  replace hx := dr_oN hx e27
  have hv27 := dr_new1 hn e27
  replace hn := tq_N hn e27
  refine W.widen (k := 32) (n := 754) (Nat.le_of_ble_eq_true rfl) (Nat.le_of_ble_eq_true rfl) ?_
  obtain ⟨D28, e28, h⟩ := le1_ok h
  refine dr_putP (fun _ => ⟨rfl, rfl⟩) I cf0 fD_RX0_49 hR hx e28 dX0_init_108 (fun H locs hR => ?_)
  replace hn := (tq_P e28).1.trans hn
  replace hx := dr_o hx (tq_P e28).1 (tq_P e28).2
  refine lv_aload_n I.1.1 I.1.2.1 dX0_init_111 rfl (lv_at hl 0 rfl) ?_
  refine lv_bipush (v := (6 : Int32)) I.1.1 I.1.2.1 dX0_init_112 (by decide) ?_
  obtain ⟨D29, e29, h⟩ := le1_ok h
  refine dr_newI (N := 6) I wA_int (by decide) rfl (by decide) hR hn (by omega) (Nat.zero_lt_of_lt hx.1) e29 (Nat.le_of_ble_eq_true rfl) (Nat.le_of_ble_eq_true rfl) dX0_init_114 (fun H hR => ?_)
  replace hx := dr_oN hx e29
  have hv29 := dr_new1 hn e29
  replace hn := tq_N hn e29
  refine W.widen (k := 33) (n := 760) (Nat.le_of_ble_eq_true rfl) (Nat.le_of_ble_eq_true rfl) ?_
  obtain ⟨D30, e30, h⟩ := le1_ok h
  refine dr_putP (fun _ => ⟨rfl, rfl⟩) I cf0 fD_RX0_52 hR hx e30 dX0_init_116 (fun H locs hR => ?_)
  replace hn := (tq_P e30).1.trans hn
  replace hx := dr_o hx (tq_P e30).1 (tq_P e30).2
  refine lv_aload_n I.1.1 I.1.2.1 dX0_init_119 rfl (lv_at hl 0 rfl) ?_
  refine lv_iconst (v := (-1 : Int32)) I.1.1 I.1.2.1 dX0_init_120 (by decide) ?_
  obtain ⟨D31, e31, h⟩ := le1_ok h
  refine dr_putI I cf0 fD_RX0_55 hR hx e31 dX0_init_121 (fun H locs hR => ?_)
  replace hn := (tq_I e31).1.trans hn
  replace hx := dr_o hx (tq_I e31).1 (tq_I e31).2
  refine lv_aload_n I.1.1 I.1.2.1 dX0_init_124 rfl (lv_at hl 0 rfl) ?_
  refine lv_iconst (v := (0 : Int32)) I.1.1 I.1.2.1 dX0_init_125 (by decide) ?_
  obtain ⟨D32, e32, h⟩ := le1_ok h
  refine dr_putZ (Or.inl rfl) I cf0 fD_RX0_59 hR hx e32 dX0_init_126 (fun H locs hR => ?_)
  replace hn := (tq_I e32).1.trans hn
  replace hx := dr_o hx (tq_I e32).1 (tq_I e32).2
  refine lv_aload_n I.1.1 I.1.2.1 dX0_init_129 rfl (lv_at hl 0 rfl) ?_
  refine lv_aload_n I.1.1 I.1.2.1 dX0_init_130 rfl (lv_at hl 1 rfl) ?_
  obtain ⟨D33, e33, h⟩ := le1_ok h
  refine dr_putP (fun _ => ⟨rfl, rfl⟩) I cf0 fD_RX0_63 hR hx e33 dX0_init_131 (fun H locs hR => ?_)
  replace hn := (tq_P e33).1.trans hn
  replace hx := dr_o hx (tq_P e33).1 (tq_P e33).2
  exact dr_ret (d := 0) I hR h (Nat.le_of_ble_eq_true rfl) (Nat.le_of_ble_eq_true rfl) dX0_init_134
theorem dX6_init_0 : decode cX6_init 0 = .ok (.aload_n 0, 1) := by decide +kernel
theorem dX6_init_1 : decode cX6_init 1 = .ok (.invokespecial 5, 3) := by decide +kernel
theorem dX6_init_4 : decode cX6_init 4 = .ok (.aload_n 0, 1) := by decide +kernel
theorem dX6_init_5 : decode cX6_init 5 = .ok (.new 11, 3) := by decide +kernel
theorem dX6_init_8 : decode cX6_init 8 = .ok (.dup, 1) := by decide +kernel
theorem dX6_init_9 : decode cX6_init 9 = .ok (.invokespecial 13, 3) := by decide +kernel
theorem dX6_init_12 : decode cX6_init 12 = .ok (.putfield 14, 3) := by decide +kernel
theorem dX6_init_15 : decode cX6_init 15 = .ok (.aload_n 0, 1) := by decide +kernel
theorem dX6_init_16 : decode cX6_init 16 = .ok (.bipush 40, 2) := by decide +kernel
theorem dX6_init_18 : decode cX6_init 18 = .ok (.newarray .int, 2) := by decide +kernel
theorem dX6_init_20 : decode cX6_init 20 = .ok (.putfield 20, 3) := by decide +kernel
theorem dX6_init_23 : decode cX6_init 23 = .ok (.aload_n 0, 1) := by decide +kernel
theorem dX6_init_24 : decode cX6_init 24 = .ok (.iconst (-1), 1) := by decide +kernel
theorem dX6_init_25 : decode cX6_init 25 = .ok (.putfield 24, 3) := by decide +kernel
theorem dX6_init_28 : decode cX6_init 28 = .ok (.aload_n 0, 1) := by decide +kernel
theorem dX6_init_29 : decode cX6_init 29 = .ok (.aload_n 1, 1) := by decide +kernel
theorem dX6_init_30 : decode cX6_init 30 = .ok (.putfield 28, 3) := by decide +kernel
theorem dX6_init_33 : decode cX6_init 33 = .ok (.aload_n 0, 1) := by decide +kernel
theorem dX6_init_34 : decode cX6_init 34 = .ok (.new 32, 3) := by decide +kernel
theorem dX6_init_37 : decode cX6_init 37 = .ok (.dup, 1) := by decide +kernel
theorem dX6_init_38 : decode cX6_init 38 = .ok (.aload_n 1, 1) := by decide +kernel
theorem dX6_init_39 : decode cX6_init 39 = .ok (.aload_n 0, 1) := by decide +kernel
theorem dX6_init_40 : decode cX6_init 40 = .ok (.getfield 14, 3) := by decide +kernel
theorem dX6_init_43 : decode cX6_init 43 = .ok (.invokespecial 34, 3) := by decide +kernel
theorem dX6_init_46 : decode cX6_init 46 = .ok (.putfield 37, 3) := by decide +kernel
theorem dX6_init_49 : decode cX6_init 49 = .ok (.return_, 1) := by decide +kernel
def f_X6_init (x n y1 : Nat) (D : Dp) : Option Dp :=
  kN D n (kO D x 1 6 (le1 (dyN D 1 4) (fun D1 => ob (f_X4_init n (n + 1) D1) (fun D2 => kN D2 (n + 3) (kO D2 x 1 6 (le1 (dyP D2 x 2 n) (fun D3 => le1 (dyN D3 4 40) (fun D4 => le1 (dyP D4 x 3 (n + 3)) (fun D5 => le1 (dyI D5 x 4 (-1 : Int32)) (fun D6 => le1 (dyP D6 x 0 y1) (fun D7 => le1 (dyN D7 1 7) (fun D8 => lQ D8 x 2 (fun z9 => ob (f_X7_init (n + 4) (n + 5) y1 z9 D8) (fun D10 => kN D10 (n + 5) (kO D10 x 1 6 (le1 (dyP D10 x 1 (n + 4)) (fun D11 => some D11)))))))))))))))))
set_option maxHeartbeats 4000000 in
set_option maxRecDepth 100000 in
theorem c_X6_init (l : Launch) (B : Nat) (E : Ev) (ak av : Nat → Nat) (x n y1 : Nat) (D r : Dp) (h : f_X6_init x n y1 D = some r) : dy_M l B E ak av yX6_init cX6_init 2 2 5 1710 [.ref (B + x), .ref (B + y1)] n D r := by
  refine dy_in (by decide) rfl (Nat.le_of_ble_eq_true rfl) ?_
  intro p e s m args below meth c I hR ls hl
  have I : dy_I p s m args meth c RX6 cX6_init 2 B n ak av := I
  have hl : lv_has ls 2 [(0, .ref (B + x)), (1, .ref (B + y1))] := hl
  unfold f_X6_init at h
  obtain ⟨hn, h⟩ := kN_ok h
  obtain ⟨hx, h⟩ := kO_ok h
  refine lv_aload_n I.1.1 I.1.2.1 dX6_init_0 rfl (lv_at hl 0 rfl) ?_
  refine dr_obj I wo_RX6 wO_in wO_co hl.1 (by decide) dX6_init_1 ?_
  refine lv_aload_n I.1.1 I.1.2.1 dX6_init_4 rfl (lv_at hl 0 rfl) ?_
  obtain ⟨D1, e1, h⟩ := le1_ok h
  refine dr_new I cf4 wN_RX6_11 rfl dfl_4 hR hn (by omega) (Nat.zero_lt_of_lt hx.1) e1 (Nat.le_of_ble_eq_true rfl) (Nat.le_of_ble_eq_true rfl) dX6_init_5 (fun H hR => ?_)
  replace hx := dr_oN hx e1
  replace hn := tq_N hn e1
  refine W.widen (k := 1) (n := 3) (Nat.le_of_ble_eq_true rfl) (Nat.le_of_ble_eq_true rfl) ?_
  refine lv_dup I.1.1 I.1.2.1 dX6_init_8 rfl ?_
  obtain ⟨D2, e2, h⟩ := ob_ok h
  obtain ⟨hn2, h⟩ := kN_ok h
  obtain ⟨hx2, h⟩ := kO_ok h
  refine dr_callN (As := []) (rest := [.ref (B + n), .ref (B + x)]) I (c_X4_init l B E ak av n (n + 1) D1 D2 e2) yi_X4_init.1 yi_X4_init.2 wK_RX6_13 rfl rfl rfl hl.1 (Nat.le_of_ble_eq_true rfl) (by decide) (by decide) hR hn (by omega) (Nat.zero_lt_of_lt hx.1) ⟨Nat.le_of_ble_eq_true rfl, Nat.le_of_ble_eq_true rfl⟩ dX6_init_9 (fun H locs hR => ?_)
  replace hn := hn2
  replace hx := hx2
  refine W.widen (k := 3) (n := 1667) (Nat.le_of_ble_eq_true rfl) (Nat.le_of_ble_eq_true rfl) ?_
  obtain ⟨D3, e3, h⟩ := le1_ok h
  refine dr_putP (fun _ => ⟨rfl, rfl⟩) I cf6 fD_RX6_14 hR hx e3 dX6_init_12 (fun H locs hR => ?_)
  replace hn := (tq_P e3).1.trans hn
  replace hx := dr_o hx (tq_P e3).1 (tq_P e3).2
  refine lv_aload_n I.1.1 I.1.2.1 dX6_init_15 rfl (lv_at hl 0 rfl) ?_
  refine lv_bipush (v := (40 : Int32)) I.1.1 I.1.2.1 dX6_init_16 (by decide) ?_
  obtain ⟨D4, e4, h⟩ := le1_ok h
  refine dr_newI (N := 40) I wA_int (by decide) rfl (by decide) hR hn (by omega) (Nat.zero_lt_of_lt hx.1) e4 (Nat.le_of_ble_eq_true rfl) (Nat.le_of_ble_eq_true rfl) dX6_init_18 (fun H hR => ?_)
  replace hx := dr_oN hx e4
  have hv4 := dr_new1 hn e4
  replace hn := tq_N hn e4
  refine W.widen (k := 4) (n := 1707) (Nat.le_of_ble_eq_true rfl) (Nat.le_of_ble_eq_true rfl) ?_
  obtain ⟨D5, e5, h⟩ := le1_ok h
  refine dr_putP (fun _ => ⟨rfl, rfl⟩) I cf6 fD_RX6_20 hR hx e5 dX6_init_20 (fun H locs hR => ?_)
  replace hn := (tq_P e5).1.trans hn
  replace hx := dr_o hx (tq_P e5).1 (tq_P e5).2
  refine lv_aload_n I.1.1 I.1.2.1 dX6_init_23 rfl (lv_at hl 0 rfl) ?_
  refine lv_iconst (v := (-1 : Int32)) I.1.1 I.1.2.1 dX6_init_24 (by decide) ?_
  obtain ⟨D6, e6, h⟩ := le1_ok h
  refine dr_putI I cf6 fD_RX6_24 hR hx e6 dX6_init_25 (fun H locs hR => ?_)
  replace hn := (tq_I e6).1.trans hn
  replace hx := dr_o hx (tq_I e6).1 (tq_I e6).2
  refine lv_aload_n I.1.1 I.1.2.1 dX6_init_28 rfl (lv_at hl 0 rfl) ?_
  refine lv_aload_n I.1.1 I.1.2.1 dX6_init_29 rfl (lv_at hl 1 rfl) ?_
  obtain ⟨D7, e7, h⟩ := le1_ok h
  refine dr_putP (fun _ => ⟨rfl, rfl⟩) I cf6 fD_RX6_28 hR hx e7 dX6_init_30 (fun H locs hR => ?_)
  replace hn := (tq_P e7).1.trans hn
  replace hx := dr_o hx (tq_P e7).1 (tq_P e7).2
  refine lv_aload_n I.1.1 I.1.2.1 dX6_init_33 rfl (lv_at hl 0 rfl) ?_
  obtain ⟨D8, e8, h⟩ := le1_ok h
  refine dr_new I cf7 wN_RX6_32 rfl dfl_7 hR hn (by omega) (Nat.zero_lt_of_lt hx.1) e8 (Nat.le_of_ble_eq_true rfl) (Nat.le_of_ble_eq_true rfl) dX6_init_34 (fun H hR => ?_)
  replace hx := dr_oN hx e8
  replace hn := tq_N hn e8
  refine W.widen (k := 5) (n := 1710) (Nat.le_of_ble_eq_true rfl) (Nat.le_of_ble_eq_true rfl) ?_
  refine lv_dup I.1.1 I.1.2.1 dX6_init_37 rfl ?_
  refine lv_aload_n I.1.1 I.1.2.1 dX6_init_38 rfl (lv_at hl 1 rfl) ?_
  refine lv_aload_n I.1.1 I.1.2.1 dX6_init_39 rfl (lv_at hl 0 rfl) ?_
  obtain ⟨z9, ez9, h⟩ := lQ_ok h
  refine dr_getP I cf6 fD_RX6_14 hR hx ez9 dX6_init_40 ?_
  obtain ⟨D10, e10, h⟩ := ob_ok h
  obtain ⟨hn10, h⟩ := kN_ok h
  obtain ⟨hx10, h⟩ := kO_ok h
  refine dr_callI (As := [.ref (B + y1), .ref (B + z9)]) (rest := [.ref (B + (n + 4)), .ref (B + x)]) I (c_X7_init l B E ak av (n + 4) (n + 5) y1 z9 D8 D10 e10) yi_X7_init.1 yi_X7_init.2 wK_RX6_34 rfl rfl rfl hl.1 (Nat.le_of_ble_eq_true rfl) (by decide) (by decide) hR hn (by omega) (Nat.zero_lt_of_lt hx.1) ⟨Nat.le_of_ble_eq_true rfl, Nat.le_of_ble_eq_true rfl⟩ dX6_init_43 (fun H locs hR => ?_)
  replace hn := hn10
  replace hx := hx10
  refine W.widen (k := 5) (n := 1710) (Nat.le_of_ble_eq_true rfl) (Nat.le_of_ble_eq_true rfl) ?_
  obtain ⟨D11, e11, h⟩ := le1_ok h
  refine dr_putP (fun _ => ⟨rfl, rfl⟩) I cf6 fD_RX6_37 hR hx e11 dX6_init_46 (fun H locs hR => ?_)
  replace hn := (tq_P e11).1.trans hn
  replace hx := dr_o hx (tq_P e11).1 (tq_P e11).2
  exact dr_ret (d := 0) I hR h (Nat.le_of_ble_eq_true rfl) (Nat.le_of_ble_eq_true rfl) dX6_init_49
