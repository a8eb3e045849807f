/-! level 3: the words that the constructors want -/
abbrev dy_g (own : String) (ci : Nat) (T : u_T) (N idx k : Nat) : Prop := dnf.getD ci 0 = N ∧ k < N ∧ Cond.fieldLink own idx (T k).1 (T k).2.1 (T k).2.2.1 ∈ gw ∧ dy_k ci k = 2
def lQ {β : Type} (D : Dp) (a k : Nat) (f : Nat → Option β) : Option β := match D.2.2.2.2 a k with
  | some z => f z
  | none => none
theorem lQ_ok {β : Type} {D : Dp} {a k : Nat} {f : Nat → Option β} {r : β} (h : lQ D a k f = some r) : ∃ z, D.2.2.2.2 a k = some z ∧ f z = some r := by
  unfold lQ at h
  cases e : D.2.2.2.2 a k with
  | none => rw [e] at h; cases h
  | some z => rw [e] at h; exact ⟨z, rfl, h⟩
theorem tq_I {D D' : Dp} {a k : Nat} {v : Int32} (e : D' = dyI D a k v) : D'.1 = D.1 ∧ D'.2.1 = D.2.1 := by subst e; exact ⟨rfl, rfl⟩
theorem tq_J {D D' : Dp} {a k : Nat} {v : Int64} (e : D' = dyJ D a k v) : D'.1 = D.1 ∧ D'.2.1 = D.2.1 := by subst e; exact ⟨rfl, rfl⟩
theorem tq_P {D D' : Dp} {a k x : Nat} (e : D' = dyP D a k x) : D'.1 = D.1 ∧ D'.2.1 = D.2.1 := by subst e; exact ⟨rfl, rfl⟩
theorem tq_N {D D' : Dp} {t n k : Nat} (h : D.1 = k) (e : D' = dyN D t n) : D'.1 = k + 1 := by subst e; subst h; rfl
theorem tq_M {D D' : Dp} {N K k : Nat} (h : D.1 = k) (e : D' = dyM D N K) : D'.1 = k + 1 + N := by subst e; subst h; rfl
section DY4
variable {p : Program} {l : Launch} {e : Env} {R : Room} {s : State} {m : MethodId} {args : Array Value} {below : List Frame} {meth : Method} {c : Code} {H H0 : Heap} {locs : List Loc} {Q : State → Prop} {cells slots : Nat}
variable {B n : Nat} {E : Ev} {D D' : Dp} {ak av : Nat → Nat} {own : String} {cc : ByteArray} {nL : Nat} {ret : Option FieldType} {pc : Nat} {ls : Array Slot} {rest : List Value}
variable {a ci k idx N k0 : Nat} {Cn : String} {T : u_T} {ty : Nat → FieldType} {fin : Bool}
theorem dr_getG {x : Nat} (I : dy_I p s m args meth c own cc nL B n ak av) (F : ho_F ci Cn T ty N) (hf : dy_g own ci T N idx k) (hR : dy_R B E s s.heap H locs D) (ha : a < D.1 ∧ D.2.1 a = (1, ci)) (hx : D.2.2.2.2 a k = some x) (hdg : decode cc pc = .ok (.getfield idx, 3))
    (kk : W p l e R s m args below meth c H locs cells slots Q (F0 m (pc + 3) ls (.ref (B + x) :: rest))) : W p l e R s m args below meth c H locs cells slots Q (F0 m pc ls (.ref (B + a) :: rest)) := by
  obtain ⟨⟨hex, hb, -, -, hown, hts, -⟩, -⟩ := I
  have he := dy_at (B := B) (E := E) ha.1
  rw [dy_c1 ha.2] at he
  refine va_get hex hb hts F.2.1 hown hR.1 hR.2.1 a he F.1 k hf.2.1 (hts _ hf.2.2.1) (fun _ h9 => h9) ?_ hdg kk
  rw [List.getElem?_map, List.getElem?_range (by rw [hf.1]; exact hf.2.1)]
  show some (dy_v B D a ci k) = some (.ref (B + x))
  unfold dy_v
  rw [if_neg (by rw [hf.2.2.2]; decide), if_neg (by rw [hf.2.2.2]; decide), hx]
  rfl
end DY4
theorem wO_in : Cond.instanceMethod Lib.objectInit ∈ gw := gt_1 (i := 28) (by decide +kernel) rfl
theorem wO_co : Cond.code Lib.objectInit ⟨#[0xb1]⟩ 1 none ∈ gw := gt_1 (i := 29) rfl rfl
theorem wA_int : Cond.arrayClass .int ∈ gw := gt_1 (i := 129) (by decide +kernel) rfl
theorem wA_char : Cond.arrayClass .char ∈ gw := gt_7 (i := 110) (by decide +kernel) rfl
theorem wA_byte : Cond.arrayClass .byte ∈ gw := gt_1 (i := 128) (by decide +kernel) rfl
theorem wA_long : Cond.arrayClass .long ∈ gw := gt_7 (i := 111) (by decide +kernel) rfl
theorem wA_boolean : Cond.arrayClass .boolean ∈ gw := gt_7 (i := 112) (by decide +kernel) rfl
theorem dfl_0 : ∀ j, j < 16 → defaultValue (tyX0 j) = if dy_k 0 j = 0 then .int 0 else if dy_k 0 j = 1 then .long 0 else .null := by decide +kernel
theorem dfl_1 : ∀ j, j < 9 → defaultValue (tyX1 j) = if dy_k 1 j = 0 then .int 0 else if dy_k 1 j = 1 then .long 0 else .null := by decide +kernel
theorem dfl_2 : ∀ j, j < 16 → defaultValue (tyX2 j) = if dy_k 2 j = 0 then .int 0 else if dy_k 2 j = 1 then .long 0 else .null := by decide +kernel
theorem dfl_3 : ∀ j, j < 5 → defaultValue (tyX3 j) = if dy_k 3 j = 0 then .int 0 else if dy_k 3 j = 1 then .long 0 else .null := by decide +kernel
theorem dfl_4 : ∀ j, j < 3 → defaultValue (tyX4 j) = if dy_k 4 j = 0 then .int 0 else if dy_k 4 j = 1 then .long 0 else .null := by decide +kernel
theorem dfl_5 : ∀ j, j < 3 → defaultValue (tyX5 j) = if dy_k 5 j = 0 then .int 0 else if dy_k 5 j = 1 then .long 0 else .null := by decide +kernel
theorem dfl_6 : ∀ j, j < 5 → defaultValue (tyX6 j) = if dy_k 6 j = 0 then .int 0 else if dy_k 6 j = 1 then .long 0 else .null := by decide +kernel
theorem dfl_7 : ∀ j, j < 3 → defaultValue (tyX7 j) = if dy_k 7 j = 0 then .int 0 else if dy_k 7 j = 1 then .long 0 else .null := by decide +kernel
theorem dfl_8 : ∀ j, j < 8 → defaultValue (tyX8 j) = if dy_k 8 j = 0 then .int 0 else if dy_k 8 j = 1 then .long 0 else .null := by decide +kernel
theorem dfl_9 : ∀ j, j < 9 → defaultValue (tyX9 j) = if dy_k 9 j = 0 then .int 0 else if dy_k 9 j = 1 then .long 0 else .null := by decide +kernel
theorem dfl_10 : ∀ j, j < 11 → defaultValue (tyX10 j) = if dy_k 10 j = 0 then .int 0 else if dy_k 10 j = 1 then .long 0 else .null := by decide +kernel
theorem dfl_11 : ∀ j, j < 17 → defaultValue (tyX11 j) = if dy_k 11 j = 0 then .int 0 else if dy_k 11 j = 1 then .long 0 else .null := by decide +kernel
theorem dfl_12 : ∀ j, j < 111 → defaultValue (tyX12 j) = if dy_k 12 j = 0 then .int 0 else if dy_k 12 j = 1 then .long 0 else .null := by decide +kernel
theorem wo_RX9 : Cond.methodLink RX9 3 Lib.objectInit ∈ gw := gt_2 (i := 121) (by decide +kernel) rfl
theorem fD_RX9_9 : dy_f RX9 9 TX9 9 9 0 0 .int false := ⟨rfl, by decide, gt_2 (i := 122) (by decide +kernel) rfl, rfl, rfl, by decide +kernel, fun _ => rfl⟩
theorem fD_RX9_15 : dy_f RX9 9 TX9 9 15 1 0 .int false := ⟨rfl, by decide, gt_2 (i := 127) (by decide +kernel) rfl, rfl, rfl, by decide +kernel, fun _ => rfl⟩
theorem fD_RX9_18 : dy_f RX9 9 TX9 9 18 2 0 .int false := ⟨rfl, by decide, gt_2 (i := 132) (by decide +kernel) rfl, rfl, rfl, by decide +kernel, fun _ => rfl⟩
theorem fD_RX9_21 : dy_f RX9 9 TX9 9 21 3 2 (.array .int) true := ⟨rfl, by decide, gt_2 (i := 137) (by decide +kernel) rfl, rfl, rfl, by decide +kernel, fun _ => rfl⟩
theorem fD_RX9_25 : dy_f RX9 9 TX9 9 25 4 2 (.array .int) true := ⟨rfl, by decide, gt_2 (i := 141) (by decide +kernel) rfl, rfl, rfl, by decide +kernel, fun _ => rfl⟩
theorem fD_RX9_28 : dy_f RX9 9 TX9 9 28 5 2 (.array .int) true := ⟨rfl, by decide, gt_2 (i := 146) (by decide +kernel) rfl, rfl, rfl, by decide +kernel, fun _ => rfl⟩
theorem fD_RX9_31 : dy_f RX9 9 TX9 9 31 6 2 (.array .int) true := ⟨rfl, by decide, gt_2 (i := 150) (by decide +kernel) rfl, rfl, rfl, by decide +kernel, fun _ => rfl⟩
theorem fD_RX9_34 : dy_f RX9 9 TX9 9 34 7 0 .int false := ⟨rfl, by decide, gt_2 (i := 154) (by decide +kernel) rfl, rfl, rfl, by decide +kernel, fun _ => rfl⟩
theorem fD_RX9_37 : dy_f RX9 9 TX9 9 37 8 2 (.array .int) true := ⟨rfl, by decide, gt_2 (i := 157) (by decide +kernel) rfl, rfl, rfl, by decide +kernel, fun _ => rfl⟩
theorem wo_RX4 : Cond.methodLink RX4 5 Lib.objectInit ∈ gw := gt_1 (i := 143) (by decide +kernel) rfl
theorem fD_RX4_11 : dy_f RX4 4 TX4 3 11 0 2 (.array .int) true := ⟨rfl, by decide, gt_1 (i := 144) (by decide +kernel) rfl, rfl, rfl, by decide +kernel, fun _ => rfl⟩
theorem fD_RX4_17 : dy_f RX4 4 TX4 3 17 1 2 (.array .int) true := ⟨rfl, by decide, gt_1 (i := 145) (by decide +kernel) rfl, rfl, rfl, by decide +kernel, fun _ => rfl⟩
theorem fD_RX4_20 : dy_f RX4 4 TX4 3 20 2 0 .int false := ⟨rfl, by decide, gt_1 (i := 146) (by decide +kernel) rfl, rfl, rfl, by decide +kernel, fun _ => rfl⟩
theorem wo_RX5 : Cond.methodLink RX5 3 Lib.objectInit ∈ gw := gt_3 (i := 36) (by decide +kernel) rfl
theorem fD_RX5_11 : dy_f RX5 5 TX5 3 11 0 2 (.array .int) true := ⟨rfl, by decide, gt_3 (i := 37) (by decide +kernel) rfl, rfl, rfl, by decide +kernel, fun _ => rfl⟩
theorem fD_RX5_15 : dy_f RX5 5 TX5 3 15 1 0 .int false := ⟨rfl, by decide, gt_3 (i := 39) (by decide +kernel) rfl, rfl, rfl, by decide +kernel, fun _ => rfl⟩
theorem fD_RX5_19 : dy_f RX5 5 TX5 3 19 2 0 .int false := ⟨rfl, by decide, gt_3 (i := 41) (by decide +kernel) rfl, rfl, rfl, by decide +kernel, fun _ => rfl⟩
theorem wo_RX7 : Cond.methodLink RX7 3 Lib.objectInit ∈ gw := gt_2 (i := 16) (by decide +kernel) rfl
theorem fD_RX7_9 : dy_f RX7 7 TX7 3 9 2 0 .int false := ⟨rfl, by decide, gt_2 (i := 19) (by decide +kernel) rfl, rfl, rfl, by decide +kernel, fun _ => rfl⟩
theorem fD_RX7_15 : dy_f RX7 7 TX7 3 15 0 2 (.object "EmptyHat$Text") true := ⟨rfl, by decide, gt_2 (i := 17) (by decide +kernel) rfl, rfl, rfl, by decide +kernel, fun _ => rfl⟩
theorem fD_RX7_19 : dy_f RX7 7 TX7 3 19 1 2 (.object "EmptyHat$Formula") false := ⟨rfl, by decide, gt_2 (i := 18) (by decide +kernel) rfl, rfl, rfl, by decide +kernel, fun _ => rfl⟩
theorem wo_RX8 : Cond.methodLink RX8 3 Lib.objectInit ∈ gw := gt_2 (i := 75) (by decide +kernel) rfl
theorem fD_RX8_9 : dy_f RX8 8 TX8 8 9 1 2 (.array .int) true := ⟨rfl, by decide, gt_2 (i := 80) (by decide +kernel) rfl, rfl, rfl, by decide +kernel, fun _ => rfl⟩
theorem fD_RX8_15 : dy_f RX8 8 TX8 8 15 2 2 (.array .int) true := ⟨rfl, by decide, gt_2 (i := 83) (by decide +kernel) rfl, rfl, rfl, by decide +kernel, fun _ => rfl⟩
theorem fD_RX8_18 : dy_f RX8 8 TX8 8 18 3 0 .int false := ⟨rfl, by decide, gt_2 (i := 85) (by decide +kernel) rfl, rfl, rfl, by decide +kernel, fun _ => rfl⟩
theorem fD_RX8_22 : dy_f RX8 8 TX8 8 22 4 0 .int false := ⟨rfl, by decide, gt_2 (i := 87) (by decide +kernel) rfl, rfl, rfl, by decide +kernel, fun _ => rfl⟩
theorem fD_RX8_25 : dy_f RX8 8 TX8 8 25 5 0 .int false := ⟨rfl, by decide, gt_2 (i := 89) (by decide +kernel) rfl, rfl, rfl, by decide +kernel, fun _ => rfl⟩
theorem fD_RX8_30 : dy_f RX8 8 TX8 8 30 6 2 (.array .int) true := ⟨rfl, by decide, gt_2 (i := 91) (by decide +kernel) rfl, rfl, rfl, by decide +kernel, fun _ => rfl⟩
theorem fD_RX8_33 : dy_f RX8 8 TX8 8 33 7 2 (.array .int) true := ⟨rfl, by decide, gt_2 (i := 92) (by decide +kernel) rfl, rfl, rfl, by decide +kernel, fun _ => rfl⟩
theorem fD_RX8_36 : dy_f RX8 8 TX8 8 36 0 2 (.object "EmptyHat$Crown") false := ⟨rfl, by decide, gt_2 (i := 76) (by decide +kernel) rfl, rfl, rfl, by decide +kernel, fun _ => rfl⟩
theorem wo_RX1 : Cond.methodLink RX1 3 Lib.objectInit ∈ gw := gt_2 (i := 237) (by decide +kernel) rfl
theorem fD_RX1_9 : dy_f RX1 1 TX1 9 9 0 0 .int false := ⟨rfl, by decide, gt_2 (i := 239) (by decide +kernel) rfl, rfl, rfl, by decide +kernel, fun _ => rfl⟩
theorem fD_RX1_15 : dy_f RX1 1 TX1 9 15 1 0 .int false := ⟨rfl, by decide, gt_3 (i := 1) (by decide +kernel) rfl, rfl, rfl, by decide +kernel, fun _ => rfl⟩
theorem fD_RX1_18 : dy_f RX1 1 TX1 9 18 2 0 .int false := ⟨rfl, by decide, gt_3 (i := 3) (by decide +kernel) rfl, rfl, rfl, by decide +kernel, fun _ => rfl⟩
theorem fD_RX1_21 : dy_f RX1 1 TX1 9 21 3 0 .int false := ⟨rfl, by decide, gt_3 (i := 5) (by decide +kernel) rfl, rfl, rfl, by decide +kernel, fun _ => rfl⟩
theorem fD_RX1_24 : dy_f RX1 1 TX1 9 24 5 2 (.array .int) true := ⟨rfl, by decide, gt_3 (i := 8) (by decide +kernel) rfl, rfl, rfl, by decide +kernel, fun _ => rfl⟩
theorem fD_RX1_28 : dy_f RX1 1 TX1 9 28 6 2 (.array .int) true := ⟨rfl, by decide, gt_3 (i := 9) (by decide +kernel) rfl, rfl, rfl, by decide +kernel, fun _ => rfl⟩
theorem fD_RX1_31 : dy_f RX1 1 TX1 9 31 7 2 (.array .int) true := ⟨rfl, by decide, gt_3 (i := 10) (by decide +kernel) rfl, rfl, rfl, by decide +kernel, fun _ => rfl⟩
theorem wM_RX1_34 : Cond.classLink RX1 34 "[[I" ∈ gw := gt_2 (i := 238) (by decide +kernel) rfl
theorem fD_RX1_36 : dy_f RX1 1 TX1 9 36 8 2 (.array (.array .int)) true := ⟨rfl, by decide, gt_3 (i := 11) (by decide +kernel) rfl, rfl, rfl, by decide +kernel, fun _ => rfl⟩
theorem fD_RX1_39 : dy_f RX1 1 TX1 9 39 4 2 (.object "EmptyHat$Stage") true := ⟨rfl, by decide, gt_3 (i := 7) (by decide +kernel) rfl, rfl, rfl, by decide +kernel, fun _ => rfl⟩
theorem wo_RX2 : Cond.methodLink RX2 3 Lib.objectInit ∈ gw := gt_1 (i := 135) (by decide +kernel) rfl
theorem fD_RX2_9 : dy_f RX2 2 TX2 16 9 0 0 .int false := ⟨rfl, by decide, gt_1 (i := 154) (by decide +kernel) rfl, rfl, rfl, by decide +kernel, fun _ => rfl⟩
theorem fD_RX2_15 : dy_f RX2 2 TX2 16 15 1 0 .int false := ⟨rfl, by decide, gt_1 (i := 158) (by decide +kernel) rfl, rfl, rfl, by decide +kernel, fun _ => rfl⟩
theorem fD_RX2_18 : dy_f RX2 2 TX2 16 18 2 0 .int false := ⟨rfl, by decide, gt_1 (i := 161) (by decide +kernel) rfl, rfl, rfl, by decide +kernel, fun _ => rfl⟩
theorem fD_RX2_21 : dy_f RX2 2 TX2 16 21 3 0 .int false := ⟨rfl, by decide, gt_1 (i := 164) (by decide +kernel) rfl, rfl, rfl, by decide +kernel, fun _ => rfl⟩
theorem fD_RX2_24 : dy_f RX2 2 TX2 16 24 4 0 .int false := ⟨rfl, by decide, gt_1 (i := 167) (by decide +kernel) rfl, rfl, rfl, by decide +kernel, fun _ => rfl⟩
theorem fD_RX2_27 : dy_f RX2 2 TX2 16 27 5 2 (.array .int) true := ⟨rfl, by decide, gt_1 (i := 170) (by decide +kernel) rfl, rfl, rfl, by decide +kernel, fun _ => rfl⟩
theorem wM_RX2_31 : Cond.classLink RX2 31 "[[I" ∈ gw := gt_1 (i := 136) (by decide +kernel) rfl
theorem fD_RX2_33 : dy_f RX2 2 TX2 16 33 6 2 (.array (.array .int)) true := ⟨rfl, by decide, gt_1 (i := 177) (by decide +kernel) rfl, rfl, rfl, by decide +kernel, fun _ => rfl⟩
theorem fD_RX2_36 : dy_f RX2 2 TX2 16 36 7 2 (.array .int) true := ⟨rfl, by decide, gt_1 (i := 180) (by decide +kernel) rfl, rfl, rfl, by decide +kernel, fun _ => rfl⟩
theorem fD_RX2_39 : dy_f RX2 2 TX2 16 39 8 2 (.array .int) true := ⟨rfl, by decide, gt_1 (i := 183) (by decide +kernel) rfl, rfl, rfl, by decide +kernel, fun _ => rfl⟩
theorem fD_RX2_42 : dy_f RX2 2 TX2 16 42 9 2 (.array .int) true := ⟨rfl, by decide, gt_1 (i := 187) (by decide +kernel) rfl, rfl, rfl, by decide +kernel, fun _ => rfl⟩
theorem fD_RX2_45 : dy_f RX2 2 TX2 16 45 10 2 (.array .int) true := ⟨rfl, by decide, gt_1 (i := 191) (by decide +kernel) rfl, rfl, rfl, by decide +kernel, fun _ => rfl⟩
theorem fD_RX2_48 : dy_f RX2 2 TX2 16 48 11 2 (.array .int) true := ⟨rfl, by decide, gt_1 (i := 195) (by decide +kernel) rfl, rfl, rfl, by decide +kernel, fun _ => rfl⟩
theorem fD_RX2_51 : dy_f RX2 2 TX2 16 51 12 2 (.array .int) true := ⟨rfl, by decide, gt_1 (i := 199) (by decide +kernel) rfl, rfl, rfl, by decide +kernel, fun _ => rfl⟩
theorem fD_RX2_54 : dy_f RX2 2 TX2 16 54 13 2 (.array .int) true := ⟨rfl, by decide, gt_1 (i := 202) (by decide +kernel) rfl, rfl, rfl, by decide +kernel, fun _ => rfl⟩
theorem wN_RX2_57 : Cond.classLink RX2 57 RX4 ∈ gw ∧ Cond.instantiable RX4 3 ∈ gw ∧ Cond.initialized RX4 ∈ gw := ⟨gt_1 (i := 138) (by decide +kernel) rfl, gt_1 (i := 139) (by decide +kernel) rfl, gt_1 (i := 8) (by decide +kernel) rfl⟩
theorem wK_RX2_59 : (RX2, 59, yX4_init) ∈ nwL := by unfold nwL; simp
theorem yi_X4_init : ho_y yX4_init cX4_init 1 none 0 ∧ Cond.instanceMethod yX4_init ∈ gw := ⟨⟨gt_1 (i := 142) rfl rfl, gt_1 (i := 8) (by decide +kernel) rfl, by decide +kernel⟩, gt_1 (i := 141) (by decide +kernel) rfl⟩
theorem fD_RX2_60 : dy_f RX2 2 TX2 16 60 14 2 (.object "EmptyHat$Formula") true := ⟨rfl, by decide, gt_1 (i := 207) (by decide +kernel) rfl, rfl, rfl, by decide +kernel, fun _ => rfl⟩
theorem fD_RX2_64 : dy_f RX2 2 TX2 16 64 15 2 (.object "EmptyHat$Formula") true := ⟨rfl, by decide, gt_1 (i := 209) (by decide +kernel) rfl, rfl, rfl, by decide +kernel, fun _ => rfl⟩
theorem wo_RX3 : Cond.methodLink RX3 5 Lib.objectInit ∈ gw := gt_2 (i := 10) (by decide +kernel) rfl
theorem fD_RX3_11 : dy_f RX3 3 TX3 5 11 3 0 .int false := ⟨rfl, by decide, gt_2 (i := 30) (by decide +kernel) rfl, rfl, rfl, by decide +kernel, fun _ => rfl⟩
theorem fD_RX3_17 : dy_f RX3 3 TX3 5 17 4 0 .int false := ⟨rfl, by decide, gt_2 (i := 31) (by decide +kernel) rfl, rfl, rfl, by decide +kernel, fun _ => rfl⟩
theorem fD_RX3_20 : dy_f RX3 3 TX3 5 20 0 2 (.object "EmptyHat$Text") true := ⟨rfl, by decide, gt_2 (i := 27) (by decide +kernel) rfl, rfl, rfl, by decide +kernel, fun _ => rfl⟩
theorem fD_RX3_24 : dy_f RX3 3 TX3 5 24 2 2 (.object "EmptyHat$Crown") false := ⟨rfl, by decide, gt_2 (i := 29) (by decide +kernel) rfl, rfl, rfl, by decide +kernel, fun _ => rfl⟩
theorem wN_RX3_28 : Cond.classLink RX3 28 RX7 ∈ gw ∧ Cond.instantiable RX7 3 ∈ gw ∧ Cond.initialized RX7 ∈ gw := ⟨gt_2 (i := 11) (by decide +kernel) rfl, gt_2 (i := 12) (by decide +kernel) rfl, gt_1 (i := 10) (by decide +kernel) rfl⟩
theorem fD_RX3_30 : dy_g RX3 2 TX2 16 30 14 := ⟨rfl, by decide, gt_1 (i := 206) (by decide +kernel) rfl, rfl⟩
theorem wK_RX3_36 : Cond.methodLink RX3 36 yX7_init ∈ gw := gt_2 (i := 13) (by decide +kernel) rfl
theorem yi_X7_init : ho_y yX7_init cX7_init 3 none 2 ∧ Cond.instanceMethod yX7_init ∈ gw := ⟨⟨gt_2 (i := 15) rfl rfl, gt_1 (i := 10) (by decide +kernel) rfl, by decide +kernel⟩, gt_2 (i := 14) (by decide +kernel) rfl⟩
theorem fD_RX3_39 : dy_f RX3 3 TX3 5 39 1 2 (.object "EmptyHat$Reader") true := ⟨rfl, by decide, gt_2 (i := 28) (by decide +kernel) rfl, rfl, rfl, by decide +kernel, fun _ => rfl⟩
theorem wo_RX0 : Cond.methodLink RX0 3 Lib.objectInit ∈ gw := gt_2 (i := 115) (by decide +kernel) rfl
theorem fD_RX0_9 : dy_f RX0 0 TX0 16 9 0 2 (.array .int) true := ⟨rfl, by decide, gt_2 (i := 178) (by decide +kernel) rfl, rfl, rfl, by decide +kernel, fun _ => rfl⟩
theorem fD_RX0_15 : dy_f RX0 0 TX0 16 15 1 2 (.array .int) true := ⟨rfl, by decide, gt_2 (i := 180) (by decide +kernel) rfl, rfl, rfl, by decide +kernel, fun _ => rfl⟩
theorem fD_RX0_18 : dy_f RX0 0 TX0 16 18 2 2 (.array .int) true := ⟨rfl, by decide, gt_2 (i := 182) (by decide +kernel) rfl, rfl, rfl, by decide +kernel, fun _ => rfl⟩
theorem fD_RX0_21 : dy_f RX0 0 TX0 16 21 3 2 (.array .int) true := ⟨rfl, by decide, gt_2 (i := 184) (by decide +kernel) rfl, rfl, rfl, by decide +kernel, fun _ => rfl⟩
theorem fD_RX0_24 : dy_f RX0 0 TX0 16 24 4 2 (.array .int) true := ⟨rfl, by decide, gt_2 (i := 186) (by decide +kernel) rfl, rfl, rfl, by decide +kernel, fun _ => rfl⟩
theorem wN_RX0_27 : Cond.classLink RX0 27 RX9 ∈ gw ∧ Cond.instantiable RX9 9 ∈ gw ∧ Cond.initialized RX9 ∈ gw := ⟨gt_2 (i := 116) (by decide +kernel) rfl, gt_2 (i := 117) (by decide +kernel) rfl, gt_1 (i := 14) (by decide +kernel) rfl⟩
theorem wK_RX0_29 : (RX0, 29, yX9_init) ∈ nwL := by unfold nwL; simp
theorem yi_X9_init : ho_y yX9_init cX9_init 1 none 0 ∧ Cond.instanceMethod yX9_init ∈ gw := ⟨⟨gt_2 (i := 120) rfl rfl, gt_1 (i := 14) (by decide +kernel) rfl, by decide +kernel⟩, gt_2 (i := 119) (by decide +kernel) rfl⟩
theorem fD_RX0_30 : dy_f RX0 0 TX0 16 30 6 2 (.object "EmptyHat$State") true := ⟨rfl, by decide, gt_2 (i := 189) (by decide +kernel) rfl, rfl, rfl, by decide +kernel, fun _ => rfl⟩
theorem fD_RX0_34 : dy_f RX0 0 TX0 16 34 7 2 (.object "EmptyHat$State") true := ⟨rfl, by decide, gt_2 (i := 190) (by decide +kernel) rfl, rfl, rfl, by decide +kernel, fun _ => rfl⟩
theorem fD_RX0_37 : dy_f RX0 0 TX0 16 37 8 2 (.object "EmptyHat$State") true := ⟨rfl, by decide, gt_2 (i := 191) (by decide +kernel) rfl, rfl, rfl, by decide +kernel, fun _ => rfl⟩
theorem fD_RX0_40 : dy_f RX0 0 TX0 16 40 9 2 (.object "EmptyHat$State") true := ⟨rfl, by decide, gt_2 (i := 192) (by decide +kernel) rfl, rfl, rfl, by decide +kernel, fun _ => rfl⟩
theorem fD_RX0_43 : dy_f RX0 0 TX0 16 43 10 2 (.array .int) true := ⟨rfl, by decide, gt_2 (i := 193) (by decide +kernel) rfl, rfl, rfl, by decide +kernel, fun _ => rfl⟩
theorem fD_RX0_46 : dy_f RX0 0 TX0 16 46 11 2 (.array .int) true := ⟨rfl, by decide, gt_2 (i := 194) (by decide +kernel) rfl, rfl, rfl, by decide +kernel, fun _ => rfl⟩
theorem fD_RX0_49 : dy_f RX0 0 TX0 16 49 12 2 (.array .int) true := ⟨rfl, by decide, gt_2 (i := 195) (by decide +kernel) rfl, rfl, rfl, by decide +kernel, fun _ => rfl⟩
theorem fD_RX0_52 : dy_f RX0 0 TX0 16 52 13 2 (.array .int) true := ⟨rfl, by decide, gt_2 (i := 196) (by decide +kernel) rfl, rfl, rfl, by decide +kernel, fun _ => rfl⟩
theorem fD_RX0_55 : dy_f RX0 0 TX0 16 55 14 0 .int false := ⟨rfl, by decide, gt_2 (i := 197) (by decide +kernel) rfl, rfl, rfl, by decide +kernel, fun _ => rfl⟩
theorem fD_RX0_59 : dy_f RX0 0 TX0 16 59 15 0 .boolean false := ⟨rfl, by decide, gt_2 (i := 198) (by decide +kernel) rfl, rfl, rfl, by decide +kernel, fun _ => rfl⟩
theorem fD_RX0_63 : dy_f RX0 0 TX0 16 63 5 2 (.object "EmptyHat$Stage") true := ⟨rfl, by decide, gt_2 (i := 188) (by decide +kernel) rfl, rfl, rfl, by decide +kernel, fun _ => rfl⟩
theorem wo_RX6 : Cond.methodLink RX6 5 Lib.objectInit ∈ gw := gt_2 (i := 49) (by decide +kernel) rfl
theorem wN_RX6_11 : Cond.classLink RX6 11 RX4 ∈ gw ∧ Cond.instantiable RX4 3 ∈ gw ∧ Cond.initialized RX4 ∈ gw := ⟨gt_2 (i := 50) (by decide +kernel) rfl, gt_1 (i := 139) (by decide +kernel) rfl, gt_1 (i := 8) (by decide +kernel) rfl⟩
theorem wK_RX6_13 : (RX6, 13, yX4_init) ∈ nwL := by unfold nwL; simp
theorem fD_RX6_14 : dy_f RX6 6 TX6 5 14 2 2 (.object "EmptyHat$Formula") true := ⟨rfl, by decide, gt_2 (i := 56) (by decide +kernel) rfl, rfl, rfl, by decide +kernel, fun _ => rfl⟩
theorem fD_RX6_20 : dy_f RX6 6 TX6 5 20 3 2 (.array .int) true := ⟨rfl, by decide, gt_2 (i := 57) (by decide +kernel) rfl, rfl, rfl, by decide +kernel, fun _ => rfl⟩
theorem fD_RX6_24 : dy_f RX6 6 TX6 5 24 4 0 .int false := ⟨rfl, by decide, gt_2 (i := 58) (by decide +kernel) rfl, rfl, rfl, by decide +kernel, fun _ => rfl⟩
theorem fD_RX6_28 : dy_f RX6 6 TX6 5 28 0 2 (.object "EmptyHat$Text") true := ⟨rfl, by decide, gt_2 (i := 54) (by decide +kernel) rfl, rfl, rfl, by decide +kernel, fun _ => rfl⟩
theorem wN_RX6_32 : Cond.classLink RX6 32 RX7 ∈ gw ∧ Cond.instantiable RX7 3 ∈ gw ∧ Cond.initialized RX7 ∈ gw := ⟨gt_2 (i := 52) (by decide +kernel) rfl, gt_2 (i := 12) (by decide +kernel) rfl, gt_1 (i := 10) (by decide +kernel) rfl⟩
theorem wK_RX6_34 : Cond.methodLink RX6 34 yX7_init ∈ gw := gt_2 (i := 53) (by decide +kernel) rfl
theorem fD_RX6_37 : dy_f RX6 6 TX6 5 37 1 2 (.object "EmptyHat$Reader") true := ⟨rfl, by decide, gt_2 (i := 55) (by decide +kernel) rfl, rfl, rfl, by decide +kernel, fun _ => rfl⟩
