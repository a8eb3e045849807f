/-! level 3: the characters of the words' text: the JDK's own methods -/
theorem jy_J0_charAt_5068e : ho_y yJ0_charAt_5068e cJ0_charAt_5068e 2 (some .char) 1 := ⟨gt_1 (i := 40) rfl rfl, gt_1 (i := 3) (by decide +kernel) rfl, by decide +kernel⟩
theorem jv_J0_charAt_5068e : Cond.instanceMethod yJ0_charAt_5068e ∈ gw ∧ Cond.selects RJ0 yJ0_charAt_5068e yJ0_charAt_5068e ∈ gw := ⟨gt_1 (i := 38) (by decide +kernel) rfl, gt_1 (i := 39) (by decide +kernel) rfl⟩
theorem jp_J0_charAt_5068e : plainFor yJ0_charAt_5068e = true := by decide +kernel
theorem dJ0_charAt_5068e_0 : decode cJ0_charAt_5068e 0 = .ok (.aload_n 0, 1) := by decide +kernel
theorem dJ0_charAt_5068e_1 : decode cJ0_charAt_5068e 1 = .ok (.invokevirtual 492, 3) := by decide +kernel
theorem dJ0_charAt_5068e_4 : decode cJ0_charAt_5068e 4 = .ok (.ifCond .eq 12, 3) := by decide +kernel
theorem dJ0_charAt_5068e_7 : decode cJ0_charAt_5068e 7 = .ok (.aload_n 0, 1) := by decide +kernel
theorem dJ0_charAt_5068e_8 : decode cJ0_charAt_5068e 8 = .ok (.getfield 9, 3) := by decide +kernel
theorem dJ0_charAt_5068e_11 : decode cJ0_charAt_5068e 11 = .ok (.iload_n 1, 1) := by decide +kernel
theorem dJ0_charAt_5068e_12 : decode cJ0_charAt_5068e 12 = .ok (.invokestatic 495, 3) := by decide +kernel
theorem dJ0_charAt_5068e_15 : decode cJ0_charAt_5068e 15 = .ok (.ireturn, 1) := by decide +kernel
theorem dJ0_charAt_5068e_16 : decode cJ0_charAt_5068e 16 = .ok (.aload_n 0, 1) := by decide +kernel
theorem dJ0_charAt_5068e_17 : decode cJ0_charAt_5068e 17 = .ok (.getfield 9, 3) := by decide +kernel
theorem dJ0_charAt_5068e_20 : decode cJ0_charAt_5068e 20 = .ok (.iload_n 1, 1) := by decide +kernel
theorem dJ0_charAt_5068e_21 : decode cJ0_charAt_5068e 21 = .ok (.invokestatic 498, 3) := by decide +kernel
theorem dJ0_charAt_5068e_24 : decode cJ0_charAt_5068e 24 = .ok (.ireturn, 1) := by decide +kernel
theorem jy_J0_isLatin1_aae02 : ho_y yJ0_isLatin1_aae02 cJ0_isLatin1_aae02 1 (some .boolean) 0 := ⟨gt_1 (i := 44) rfl rfl, gt_1 (i := 3) (by decide +kernel) rfl, by decide +kernel⟩
theorem jv_J0_isLatin1_aae02 : Cond.instanceMethod yJ0_isLatin1_aae02 ∈ gw ∧ Cond.selects RJ0 yJ0_isLatin1_aae02 yJ0_isLatin1_aae02 ∈ gw := ⟨gt_1 (i := 42) (by decide +kernel) rfl, gt_1 (i := 43) (by decide +kernel) rfl⟩
theorem jp_J0_isLatin1_aae02 : plainFor yJ0_isLatin1_aae02 = true := by decide +kernel
theorem dJ0_isLatin1_aae02_0 : decode cJ0_isLatin1_aae02 0 = .ok (.getstatic 38, 3) := by decide +kernel
theorem dJ0_isLatin1_aae02_3 : decode cJ0_isLatin1_aae02 3 = .ok (.ifCond .eq 14, 3) := by decide +kernel
theorem dJ0_isLatin1_aae02_6 : decode cJ0_isLatin1_aae02 6 = .ok (.aload_n 0, 1) := by decide +kernel
theorem dJ0_isLatin1_aae02_7 : decode cJ0_isLatin1_aae02 7 = .ok (.getfield 15, 3) := by decide +kernel
theorem dJ0_isLatin1_aae02_10 : decode cJ0_isLatin1_aae02 10 = .ok (.ifCond .ne 7, 3) := by decide +kernel
theorem dJ0_isLatin1_aae02_13 : decode cJ0_isLatin1_aae02 13 = .ok (.iconst 1, 1) := by decide +kernel
theorem dJ0_isLatin1_aae02_14 : decode cJ0_isLatin1_aae02 14 = .ok (.goto 4, 3) := by decide +kernel
theorem dJ0_isLatin1_aae02_17 : decode cJ0_isLatin1_aae02 17 = .ok (.iconst 0, 1) := by decide +kernel
theorem dJ0_isLatin1_aae02_18 : decode cJ0_isLatin1_aae02 18 = .ok (.ireturn, 1) := by decide +kernel
theorem jy_J1_charAt_3b067 : ho_y yJ1_charAt_3b067 cJ1_charAt_3b067 2 (some .char) 2 := ⟨gt_1 (i := 49) rfl rfl, gt_1 (i := 4) (by decide +kernel) rfl, by decide +kernel⟩
theorem js_J1_charAt_3b067 : Cond.static yJ1_charAt_3b067 ∈ gw := gt_1 (i := 48) (by decide +kernel) rfl
theorem jp_J1_charAt_3b067 : plainFor yJ1_charAt_3b067 = true := by decide +kernel
theorem dJ1_charAt_3b067_0 : decode cJ1_charAt_3b067 0 = .ok (.iload_n 1, 1) := by decide +kernel
theorem dJ1_charAt_3b067_1 : decode cJ1_charAt_3b067 1 = .ok (.aload_n 0, 1) := by decide +kernel
theorem dJ1_charAt_3b067_2 : decode cJ1_charAt_3b067 2 = .ok (.arraylength, 1) := by decide +kernel
theorem dJ1_charAt_3b067_3 : decode cJ1_charAt_3b067 3 = .ok (.invokestatic 9, 3) := by decide +kernel
theorem dJ1_charAt_3b067_6 : decode cJ1_charAt_3b067 6 = .ok (.aload_n 0, 1) := by decide +kernel
theorem dJ1_charAt_3b067_7 : decode cJ1_charAt_3b067 7 = .ok (.iload_n 1, 1) := by decide +kernel
theorem dJ1_charAt_3b067_8 : decode cJ1_charAt_3b067 8 = .ok (.baload, 1) := by decide +kernel
theorem dJ1_charAt_3b067_9 : decode cJ1_charAt_3b067 9 = .ok (.sipush 255, 3) := by decide +kernel
theorem dJ1_charAt_3b067_12 : decode cJ1_charAt_3b067 12 = .ok (.iand, 1) := by decide +kernel
theorem dJ1_charAt_3b067_13 : decode cJ1_charAt_3b067 13 = .ok (.i2c, 1) := by decide +kernel
theorem dJ1_charAt_3b067_14 : decode cJ1_charAt_3b067 14 = .ok (.ireturn, 1) := by decide +kernel
theorem jy_J0_checkIndex_df160 : ho_y yJ0_checkIndex_df160 cJ0_checkIndex_df160 2 none 2 := ⟨gt_1 (i := 52) rfl rfl, gt_1 (i := 3) (by decide +kernel) rfl, by decide +kernel⟩
theorem js_J0_checkIndex_df160 : Cond.static yJ0_checkIndex_df160 ∈ gw := gt_1 (i := 51) (by decide +kernel) rfl
theorem jp_J0_checkIndex_df160 : plainFor yJ0_checkIndex_df160 = true := by decide +kernel
theorem dJ0_checkIndex_df160_0 : decode cJ0_checkIndex_df160 0 = .ok (.iload_n 0, 1) := by decide +kernel
theorem dJ0_checkIndex_df160_1 : decode cJ0_checkIndex_df160 1 = .ok (.iload_n 1, 1) := by decide +kernel
theorem dJ0_checkIndex_df160_2 : decode cJ0_checkIndex_df160 2 = .ok (.getstatic 1053, 3) := by decide +kernel
theorem dJ0_checkIndex_df160_5 : decode cJ0_checkIndex_df160 5 = .ok (.invokestatic 1059, 3) := by decide +kernel
theorem dJ0_checkIndex_df160_8 : decode cJ0_checkIndex_df160 8 = .ok (.pop, 1) := by decide +kernel
theorem dJ0_checkIndex_df160_9 : decode cJ0_checkIndex_df160 9 = .ok (.return_, 1) := by decide +kernel
theorem jy_J3_checkIndex_8e157 : ho_y yJ3_checkIndex_8e157 cJ3_checkIndex_8e157 3 (some .int) 3 := ⟨gt_1 (i := 57) rfl rfl, gt_1 (i := 5) (by decide +kernel) rfl, by decide +kernel⟩
theorem js_J3_checkIndex_8e157 : Cond.static yJ3_checkIndex_8e157 ∈ gw := gt_1 (i := 56) (by decide +kernel) rfl
theorem jp_J3_checkIndex_8e157 : plainFor yJ3_checkIndex_8e157 = true := by decide +kernel
theorem dJ3_checkIndex_8e157_0 : decode cJ3_checkIndex_8e157 0 = .ok (.iload_n 0, 1) := by decide +kernel
theorem dJ3_checkIndex_8e157_1 : decode cJ3_checkIndex_8e157 1 = .ok (.ifCond .lt 8, 3) := by decide +kernel
theorem dJ3_checkIndex_8e157_4 : decode cJ3_checkIndex_8e157 4 = .ok (.iload_n 0, 1) := by decide +kernel
theorem dJ3_checkIndex_8e157_5 : decode cJ3_checkIndex_8e157 5 = .ok (.iload_n 1, 1) := by decide +kernel
theorem dJ3_checkIndex_8e157_6 : decode cJ3_checkIndex_8e157 6 = .ok (.if_icmp .lt 10, 3) := by decide +kernel
theorem dJ3_checkIndex_8e157_9 : decode cJ3_checkIndex_8e157 9 = .ok (.aload_n 2, 1) := by decide +kernel
theorem dJ3_checkIndex_8e157_10 : decode cJ3_checkIndex_8e157 10 = .ok (.iload_n 0, 1) := by decide +kernel
theorem dJ3_checkIndex_8e157_11 : decode cJ3_checkIndex_8e157 11 = .ok (.iload_n 1, 1) := by decide +kernel
theorem dJ3_checkIndex_8e157_12 : decode cJ3_checkIndex_8e157 12 = .ok (.invokestatic 95, 3) := by decide +kernel
theorem dJ3_checkIndex_8e157_15 : decode cJ3_checkIndex_8e157 15 = .ok (.athrow, 1) := by decide +kernel
theorem dJ3_checkIndex_8e157_16 : decode cJ3_checkIndex_8e157 16 = .ok (.iload_n 0, 1) := by decide +kernel
theorem dJ3_checkIndex_8e157_17 : decode cJ3_checkIndex_8e157 17 = .ok (.ireturn, 1) := by decide +kernel
theorem jk_RX10_49 : Cond.methodLink RX10 49 yJ0_charAt_5068e ∈ gw := gt_1 (i := 37) (by decide +kernel) rfl
theorem jk_RJ0_492 : Cond.methodLink RJ0 492 yJ0_isLatin1_aae02 ∈ gw := gt_1 (i := 41) (by decide +kernel) rfl
theorem jk_RJ0_495 : Cond.methodLink RJ0 495 yJ1_charAt_3b067 ∈ gw := gt_1 (i := 47) (by decide +kernel) rfl
theorem jk_RJ1_9 : Cond.methodLink RJ1 9 yJ0_checkIndex_df160 ∈ gw := gt_1 (i := 50) (by decide +kernel) rfl
theorem jk_RJ0_1059 : Cond.methodLink RJ0 1059 yJ3_checkIndex_8e157 ∈ gw := gt_1 (i := 55) (by decide +kernel) rfl
theorem jf_38 : Cond.fieldLink RJ0 38 "java/lang/String" "COMPACT_STRINGS" "Z" ∈ gw := gt_1 (i := 45) (by decide +kernel) rfl
theorem jf_1053 : Cond.fieldLink RJ0 1053 "jdk/internal/util/Preconditions" "SIOOBE_FORMATTER" "Ljava/util/function/BiFunction;" ∈ gw := gt_1 (i := 53) (by decide +kernel) rfl
theorem jf_15 : Cond.fieldLink RJ0 15 "java/lang/String" "coder" "B" ∈ gw := gt_9 (i := 194) (by decide +kernel) rfl
theorem jf_9 : Cond.fieldLink RJ0 9 "java/lang/String" "value" "[B" ∈ gw := gt_9 (i := 195) (by decide +kernel) rfl
theorem dby_c : ∀ i, i < 210 → ((dby.getD i 0 &&& 255).toUInt32 % 65536).toInt32 = dby.getD i 0 ∧ narrow .char (.int (dby.getD i 0)) = .int (dby.getD i 0) := by decide +kernel
def jQ (v : Option Value) : Array Value → State → Outcome → State → Prop := fun _ st oc t => oc = .returned v ∧ va_F (fun _ => False) st t
def jM (l : Launch) (B : Nat) (ak av : Nat → Nat) (y : MethodName) (cc : ByteArray) (mL : Nat) (ret : Option FieldType) (d : Nat) (as : List Value) (v : Option Value) : Prop := Met l y (ho_ws y cc mL ret) (dy_rm d 0 0) (va_Pc as (dy_X B ak av)) (jQ v) 0 0 (fun _ => False)
theorem je_in {l : Launch} {B : Nat} {ak av : Nat → Nat} {y : MethodName} {cc : ByteArray} {mL : Nat} {ret : Option FieldType} {d : Nat} {as : List Value} {v : Option Value} (hy : plainFor y = true) (ha : (lg_sl as).length ≤ mL)
    (body : ∀ (p : Program) (e : Env) (s : State) (m : MethodId) (args : Array Value) (below : List Frame) (meth : Method) (c : Code), ho_I p s m args meth c y.cls cc mL ret → dy_X B ak av s → ∀ ls : Array Slot, lv_has ls mL (lv_args 0 as) → W p l e (dy_rm d 0 0) s m args below meth c s.heap [] 0 0 (MQ below (jQ v) args s 0 0 (fun _ => False)) (F0 m 0 ls [])) : jM l B ak av y cc mL ret d as v := by
  unfold jM
  refine MetFree.of_bodySF (code := cc) (maxLocals := mL) (ret := ret) hy ?_ ?_
  · intro args s m h hn
    obtain ⟨meth, c, h1, h2, h3, h4, h5, h6, -, -⟩ := Cond.code_spec hn (atoms_spec (ws := ho_ws y cc mL ret) h _ List.mem_cons_self)
    exact ⟨meth, c, h1, h2, h3, h4, h5, h6⟩
  · intro p e s m args below meth c s₁ Bd hml hv _
    have hh0 : s₁.heap = s.heap := by rw [Bd.state]; rfl
    obtain ⟨rfl, hX⟩ := hv
    have hts := atoms_spec (ws := ho_ws y cc mL ret) Bd.pre
    have hl := lv_entry as (n := mL) ha
    have K := body p e s m _ below meth c ⟨Bd.exec, Bd.bytes, hml, Bd.returns, findClass_of_methodNamed Bd.named, fun w hw => hts w (List.mem_cons_of_mem _ hw), Bd.notSynchronized⟩ hX _ hl
    rw [← lg_entry_eq] at K
    obtain ⟨t, a1, o, b1, b2, b3⟩ := K s₁ hh0 (Stand.of_body Bd)
    exact ⟨t, o, a1, b1, b2, ⟨b3.1, b3.2⟩⟩
section JE
variable {p : Program} {l : Launch} {e : Env} {R : Room} {s : State} {m : MethodId} {args : Array Value} {below : List Frame} {meth : Method} {c : Code} {H : Heap} {locs : List Loc} {Q : State → Prop} {cells slots : Nat}
variable {B : Nat} {ak av : Nat → Nat} {own : String} {cc : ByteArray} {nL : Nat} {ret : Option FieldType} {pc : Nat} {ls : Array Slot} {rest : List Value} {A : Nat → Prop}
theorem je_S (hS : va_S (fun _ => False) s.heap H locs) : va_S (fun q : Nat => B ≤ q) s.heap H locs := ⟨hS.1, fun q h1 _ => hS.2.1 q h1 (fun x => x), fun q hq => (hS.2.2 q hq).elim⟩
theorem je_pre (hX : dy_X B ak av s) (hS : va_S (fun q : Nat => B ≤ q) s.heap H locs) (as : List Value) : PreS s H (va_Pc as (dy_X B ak av)) as := by
  refine ⟨fun x U g mk q => ?_, fun U hU hW => ?_⟩
  · obtain ⟨q0, qX⟩ := q
    exact ⟨q0, dy_X_same (u := U) (U := U.calling g mk x) rfl rfl qX⟩
  · exact ⟨rfl, dy_X_warm hW (fun x h1 h2 => by rw [hU]; exact hS.2.1 x h1 h2) hX⟩
theorem je_call {v : Option Value} {x : Array Value} {st0 : List Value} (hr : va_Run p l e R s m args below meth c H locs cells slots 0 0 (F0 m pc ls st0) rest (jQ v x) (fun _ => False)) (hS : va_S A s.heap H locs)
    (kk : ∀ (H1 : Heap) (locs1 : List Loc), va_S A s.heap H1 locs1 → (∀ q : Nat, q < H.size → H1[q]? = H[q]?) → W p l e R s m args below meth c H1 locs1 cells slots Q (F0 m (pc + 3) ls (v.toList ++ rest))) : W p l e R s m args below meth c H locs cells slots Q (F0 m pc ls st0) := by
  intro Ts hT X
  obtain ⟨v', st₀, t, T', L, h0, X', hL, e1, e2, ⟨hv, hz, hk⟩, st⟩ := hr Ts hT X
  cases hv
  rw [h0] at hz hk
  obtain ⟨t2, a1, b1⟩ := kk T'.heap (locs ++ L) ⟨Nat.le_trans hS.1 (by rw [e1]; exact hz), fun q h1 h2 => by rw [e1, hk q (Nat.lt_of_lt_of_le h1 hS.1) (fun x => x)]; exact hS.2.1 q h1 h2, fun q hq => by
      rcases List.mem_append.mp hq with h | h
      · exact hS.2.2 q h
      · exact (hL q h).elim⟩ (fun q hq => by rw [e1]; exact hk q hq (fun x => x)) T' rfl X'
  exact ⟨t2, st t2 a1, b1⟩
theorem je_callS {y : MethodName} {by2 : ByteArray} {mL nA d d2 mc ms idx : Nat} {rt : Option FieldType} {v : Option Value} {As st0 : List Value} (C : ho_I p s m args meth c own cc nL ret) (hX : dy_X B ak av s) (hM : jM l B ak av y by2 mL rt d2 As v) (hy : ho_y y by2 mL rt nA) (hst : Cond.static y ∈ gw) (hlk : Cond.methodLink own idx y ∈ gw) (hn : As.length = nA) (hs0 : st0 = As.reverse ++ rest)
    (hsz : ls.size = nL) (hro : (rest.map fun v => v.category).sum ≤ 8) (hd : d2 + 1 ≤ d) (hmL : mL ≤ 45) (hAB : ∀ q, A q → B ≤ q) (hS : va_S A s.heap H locs) (hf : cells ≤ mc ∧ slots ≤ ms) (hdg : decode cc pc = .ok (.invokestatic idx, 3))
    (kk : ∀ (H1 : Heap) (locs1 : List Loc), va_S A s.heap H1 locs1 → (∀ q : Nat, q < H.size → H1[q]? = H[q]?) → W p l e (dy_rm d mc ms) s m args below meth c H1 locs1 cells slots Q (F0 m (pc + 3) ls (v.toList ++ rest))) : W p l e (dy_rm d mc ms) s m args below meth c H locs cells slots Q (F0 m pc ls st0) := by
  subst hs0
  have hp := je_pre (B := B) (ak := ak) (av := av) hX (⟨hS.1, fun q h1 h2 => hS.2.1 q h1 (fun x => h2 (hAB q x)), fun q hq => hAB _ (hS.2.2 q hq)⟩ : va_S (fun q : Nat => B ≤ q) s.heap H locs) As
  obtain ⟨hx, hbc, hml, -, hown, hts, -⟩ := C
  obtain ⟨hcd, hini, hd1⟩ := hy
  have hroom : (dy_rm d2 0 0).frames + 1 ≤ (dy_rm d mc ms).frames ∧ 8 + (mL + 11) + (dy_rm d2 0 0).locals ≤ (dy_rm d mc ms).locals := ⟨hd, by show 8 + (mL + 11) + 64 * d2 ≤ 64 * d; omega⟩
  exact je_call (va_runS (As := As) (rest := rest) ⟨hx, hbc, hml, hown, hts⟩ hM ⟨callB_of nA hts (ho_good hcd) rfl rfl rfl (hts _ hini) (hts _ hlk) hd1 hroom, hts _ hst⟩ hp rfl hn hsz rfl (lv_room hro) hdg hf) hS kk
theorem je_callV {y : MethodName} {by2 : ByteArray} {mL nA d d2 mc ms idx b : Nat} {rt : Option FieldType} {v : Option Value} {As st0 : List Value} (C : ho_I p s m args meth c own cc nL ret) (hX : dy_X B ak av s) (hM : jM l B ak av y by2 mL rt d2 (.ref b :: As) v) (hy : ho_y y by2 mL rt nA) (hcl : y.cls = RJ0) (hv : Cond.instanceMethod y ∈ gw ∧ Cond.selects RJ0 y y ∈ gw) (hlk : Cond.methodLink own idx y ∈ gw) (hrc : ∃ cell : Cell, H[b]? = some cell ∧ cell.vm.isStatics = false ∧ s.vm.findClass RJ0 = some cell.cls) (hn : As.length = nA) (hs0 : st0 = As.reverse ++ .ref b :: rest)
    (hsz : ls.size = nL) (hro : (rest.map fun v => v.category).sum ≤ 8) (hd : d2 + 1 ≤ d) (hmL : mL ≤ 45) (hAB : ∀ q, A q → B ≤ q) (hS : va_S A s.heap H locs) (hf : cells ≤ mc ∧ slots ≤ ms) (hdg : decode cc pc = .ok (.invokevirtual idx, 3))
    (kk : ∀ (H1 : Heap) (locs1 : List Loc), va_S A s.heap H1 locs1 → (∀ q : Nat, q < H.size → H1[q]? = H[q]?) → W p l e (dy_rm d mc ms) s m args below meth c H1 locs1 cells slots Q (F0 m (pc + 3) ls (v.toList ++ rest))) : W p l e (dy_rm d mc ms) s m args below meth c H locs cells slots Q (F0 m pc ls st0) := by
  subst hs0
  have hp := je_pre (B := B) (ak := ak) (av := av) hX (⟨hS.1, fun q h1 h2 => hS.2.1 q h1 (fun x => h2 (hAB q x)), fun q hq => hAB _ (hS.2.2 q hq)⟩ : va_S (fun q : Nat => B ≤ q) s.heap H locs) (.ref b :: As)
  obtain ⟨hx, hbc, hml, -, hown, hts, -⟩ := C
  obtain ⟨hcd, hini, hd1⟩ := hy
  have hroom : (dy_rm d2 0 0).frames + 1 ≤ (dy_rm d mc ms).frames ∧ 8 + (mL + 11) + (dy_rm d2 0 0).locals ≤ (dy_rm d mc ms).locals := ⟨hd, by show 8 + (mL + 11) + 64 * d2 ≤ 64 * d; omega⟩
  exact je_call (va_runV (C := RJ0) (As := As) (rest := rest) ⟨hx, hbc, hml, hown, hts⟩ hM ⟨callB_of nA hts (ho_good hcd) rfl rfl rfl (hts _ hini) (hts _ hlk) hd1 hroom, hts _ hv.1, hts _ hv.2⟩ ⟨hp.1, hrc, hp.2⟩ rfl hn hsz rfl (lv_room hro) hdg hf) hS kk
end JE
theorem c_J3ci (l : Launch) (B : Nat) (ak av : Nat → Nat) (i n : Nat) (o : Option Nat) (hi : i < n) (hn : n < 2 ^ 31) : jM l B ak av yJ3_checkIndex_8e157 cJ3_checkIndex_8e157 3 (some .int) 0 [.int (nI i), .int (nI n), va_rf o] (some (.int (nI i))) := by
  refine je_in jp_J3_checkIndex_8e157 (by cases o <;> exact Nat.le_of_ble_eq_true rfl) ?_
  intro p e s m args below meth c C hX ls hl
  have C : ho_I p s m args meth c RJ3 cJ3_checkIndex_8e157 3 (some .int) := C
  have hl : lv_has ls 3 [(0, .int (nI i)), (1, .int (nI n)), (2, va_rf o)] := by cases o <;> exact hl
  refine lv_iload_n C.1 C.2.1 dJ3_checkIndex_8e157_0 rfl (lv_at hl 0 rfl) ?_
  refine lv_if_lt (tgt := 9) C.1 C.2.1 dJ3_checkIndex_8e157_1 (by decide) (fun hc => absurd hc (nI_pos (by omega))) (fun hc => ?_)
  refine lv_iload_n C.1 C.2.1 dJ3_checkIndex_8e157_4 rfl (lv_at hl 0 rfl) ?_
  refine lv_iload_n C.1 C.2.1 dJ3_checkIndex_8e157_5 rfl (lv_at hl 1 rfl) ?_
  refine lv_icmp_lt (tgt := 16) C.1 C.2.1 dJ3_checkIndex_8e157_6 (by decide) (fun hc => ?_) (fun hc => absurd (nI_lt hi hn) hc)
  refine lv_iload_n C.1 C.2.1 dJ3_checkIndex_8e157_16 rfl (lv_at hl 0 rfl) ?_
  exact W.iret C.1 C.2.1 C.2.2.2.1 (fun t ht _ => ⟨rfl, va_S.rf.F ht⟩) (fun q hq => by cases hq) dJ3_checkIndex_8e157_17 (hlocks := C.2.2.2.2.2.2)
theorem c_J0ci (l : Launch) (B : Nat) (ak av : Nat → Nat) (i n : Nat) (hi : i < n) (hn : n < 2 ^ 31) : jM l B ak av yJ0_checkIndex_df160 cJ0_checkIndex_df160 2 none 1 [.int (nI i), .int (nI n)] none := by
  refine je_in jp_J0_checkIndex_df160 (Nat.le_of_ble_eq_true rfl) ?_
  intro p e s m args below meth c C hX ls hl
  have C : ho_I p s m args meth c RJ0 cJ0_checkIndex_df160 2 none := C
  have hl : lv_has ls 2 [(0, .int (nI i)), (1, .int (nI n))] := hl
  refine lv_iload_n C.1 C.2.1 dJ0_checkIndex_df160_0 rfl (lv_at hl 0 rfl) ?_
  refine lv_iload_n C.1 C.2.1 dJ0_checkIndex_df160_1 rfl (lv_at hl 1 rfl) ?_
  have go : ∀ o : Option Nat, W p l e (dy_rm 1 0 0) s m args below meth c s.heap [] 0 0 (MQ below (jQ none) args s 0 0 (fun _ => False)) (F0 m 5 ls [va_rf o, .int (nI n), .int (nI i)]) := by
    intro o
    refine je_callS (A := fun _ => False) (v := some (.int (nI i))) (As := [.int (nI i), .int (nI n), va_rf o]) (rest := []) C hX (c_J3ci l B ak av i n o hi hn) jy_J3_checkIndex_8e157 js_J3_checkIndex_8e157 jk_RJ0_1059 rfl rfl hl.1 (by decide) (by decide) (by decide) (fun q h => h.elim) va_S.rf ⟨Nat.le_refl _, Nat.le_refl _⟩ dJ0_checkIndex_df160_5 (fun H locs hS hk => ?_)
    refine lv_pop C.1 C.2.1 dJ0_checkIndex_df160_8 rfl ?_
    exact W.vret C.1 C.2.1 C.2.2.2.1 (fun t ht _ => ⟨rfl, hS.F ht⟩) hS.2.2 dJ0_checkIndex_df160_9 (hlocks := C.2.2.2.2.2.2)
  rcases hX.2.2.2.2.2.2 with h | ⟨t, h⟩
  · refine va_gets C.1 C.2.1 h va_S.rf C.2.2.2.2.1 (C.2.2.2.2.2.1 _ jf_1053) (fun _ h9 => h9) dJ0_checkIndex_df160_2 ?_
    exact go none
  · refine va_gets C.1 C.2.1 h va_S.rf C.2.2.2.2.1 (C.2.2.2.2.2.1 _ jf_1053) (fun _ h9 => h9) dJ0_checkIndex_df160_2 ?_
    exact go (some t)
theorem c_J1ch (l : Launch) (B : Nat) (ak av : Nat → Nat) (i : Nat) (hi : i < 210) : jM l B ak av yJ1_charAt_3b067 cJ1_charAt_3b067 2 (some .char) 2 [.ref (av 0), .int (nI i)] (some (.int (dby.getD i 0))) := by
  refine je_in jp_J1_charAt_3b067 (Nat.le_of_ble_eq_true rfl) ?_
  intro p e s m args below meth c C hX ls hl
  have C : ho_I p s m args meth c RJ1 cJ1_charAt_3b067 2 (some .char) := C
  have hl : lv_has ls 2 [(0, .ref (av 0)), (1, .int (nI i))] := hl
  have hT : va_T .byte (av 0) 210 (fun j => .int (dby.getD j 0)) (fun q : Nat => B ≤ q) s s.heap := (hX.2.2.2.2.1.1 0 (by decide)).2.2.2
  refine lv_iload_n C.1 C.2.1 dJ1_charAt_3b067_0 rfl (lv_at hl 1 rfl) ?_
  refine lv_aload_n C.1 C.2.1 dJ1_charAt_3b067_1 rfl (lv_at hl 0 rfl) ?_
  refine va_tlen C.1 C.2.1 hT va_S.rf (v := nI 210) rfl dJ1_charAt_3b067_2 ?_
  refine je_callS (A := fun _ => False) (v := none) (As := [.int (nI i), .int (nI 210)]) (rest := []) C hX (c_J0ci l B ak av i 210 hi (by decide)) jy_J0_checkIndex_df160 js_J0_checkIndex_df160 jk_RJ1_9 rfl rfl hl.1 (by decide) (by decide) (by decide) (fun q h => h.elim) va_S.rf ⟨Nat.le_refl _, Nat.le_refl _⟩ dJ1_charAt_3b067_3 (fun H locs hS hk => ?_)
  refine lv_aload_n C.1 C.2.1 dJ1_charAt_3b067_6 rfl (lv_at hl 0 rfl) ?_
  refine lv_iload_n C.1 C.2.1 dJ1_charAt_3b067_7 rfl (lv_at hl 1 rfl) ?_
  refine va_tb C.1 C.2.1 hT (je_S hS) (vp_in_nI hi (by decide)) (v := .int (dby.getD i 0)) (by rw [nI_clamp (by omega)]) dJ1_charAt_3b067_8 ?_
  refine lv_sipush (v := (255 : Int32)) C.1 C.2.1 dJ1_charAt_3b067_9 (by decide) ?_
  refine lv_iand C.1 C.2.1 dJ1_charAt_3b067_12 ?_
  refine lv_i2c (v := dby.getD i 0) C.1 C.2.1 dJ1_charAt_3b067_13 (dby_c i hi).1 ?_
  exact W.zret C.1 C.2.1 C.2.2.2.1 (dby_c i hi).2 (fun t ht _ => ⟨rfl, hS.F ht⟩) hS.2.2 dJ1_charAt_3b067_14 (hlocks := C.2.2.2.2.2.2)
theorem c_J0la (l : Launch) (B : Nat) (ak av : Nat → Nat) : jM l B ak av yJ0_isLatin1_aae02 cJ0_isLatin1_aae02 1 (some .boolean) 0 [.ref (ak 0)] (some (.int 1)) := by
  refine je_in jp_J0_isLatin1_aae02 (Nat.le_of_ble_eq_true rfl) ?_
  intro p e s m args below meth c C hX ls hl
  have C : ho_I p s m args meth c RJ0 cJ0_isLatin1_aae02 1 (some .boolean) := C
  have hl : lv_has ls 1 [(0, .ref (ak 0))] := hl
  refine va_gets C.1 C.2.1 hX.2.2.2.2.2.1 va_S.rf C.2.2.2.2.1 (C.2.2.2.2.2.1 _ jf_38) (fun _ h9 => h9) dJ0_isLatin1_aae02_0 ?_
  refine lv_if_eq (tgt := 17) C.1 C.2.1 dJ0_isLatin1_aae02_3 (by decide) (fun hc => absurd hc (by decide)) (fun hc => ?_)
  refine lv_aload_n C.1 C.2.1 dJ0_isLatin1_aae02_6 rfl (lv_at hl 0 rfl) ?_
  refine vk_getf C.1 C.2.1 (hX.2.2.2.2.1.1 0 (by decide)).2.1 va_S.rf C.2.2.2.2.1 (C.2.2.2.2.2.1 _ jf_15) (fun _ h9 => h9) dJ0_isLatin1_aae02_7 ?_
  refine lv_if_ne (tgt := 17) C.1 C.2.1 dJ0_isLatin1_aae02_10 (by decide) (fun hc => absurd rfl hc) (fun hc => ?_)
  refine lv_iconst (v := (1 : Int32)) C.1 C.2.1 dJ0_isLatin1_aae02_13 (by decide) ?_
  refine lv_goto (tgt := 18) C.1 C.2.1 dJ0_isLatin1_aae02_14 (by decide) ?_
  exact W.zret C.1 C.2.1 C.2.2.2.1 (by decide) (fun t ht _ => ⟨rfl, va_S.rf.F ht⟩) (fun q hq => by cases hq) dJ0_isLatin1_aae02_18 (hlocks := C.2.2.2.2.2.2)
theorem c_J0ch (l : Launch) (B : Nat) (ak av : Nat → Nat) (i : Nat) (hi : i < 210) : jM l B ak av yJ0_charAt_5068e cJ0_charAt_5068e 2 (some .char) 3 [.ref (ak 0), .int (nI i)] (some (.int (dby.getD i 0))) := by
  refine je_in jp_J0_charAt_5068e (Nat.le_of_ble_eq_true rfl) ?_
  intro p e s m args below meth c C hX ls hl
  have C : ho_I p s m args meth c RJ0 cJ0_charAt_5068e 2 (some .char) := C
  have hl : lv_has ls 2 [(0, .ref (ak 0)), (1, .int (nI i))] := hl
  have hV := hX.2.2.2.2.1.1 0 (by decide)
  refine lv_aload_n C.1 C.2.1 dJ0_charAt_5068e_0 rfl (lv_at hl 0 rfl) ?_
  refine je_callV (A := fun _ => False) (v := some (.int 1)) (As := []) (rest := []) C hX (c_J0la l B ak av) jy_J0_isLatin1_aae02 rfl jv_J0_isLatin1_aae02 jk_RJ0_492 (vk_recv hX.2.2.2.2.1 (by decide) va_S.rf) rfl rfl hl.1 (by decide) (by decide) (by decide) (fun q h => h.elim) va_S.rf ⟨Nat.le_refl _, Nat.le_refl _⟩ dJ0_charAt_5068e_1 (fun H locs hS hk => ?_)
  refine lv_if_eq (tgt := 16) C.1 C.2.1 dJ0_charAt_5068e_4 (by decide) (fun hc => absurd hc (by decide)) (fun hc => ?_)
  refine lv_aload_n C.1 C.2.1 dJ0_charAt_5068e_7 rfl (lv_at hl 0 rfl) ?_
  refine vk_getf C.1 C.2.1 hV.2.2.1 (je_S hS) C.2.2.2.2.1 (C.2.2.2.2.2.1 _ jf_9) (fun _ h9 => h9) dJ0_charAt_5068e_8 ?_
  refine lv_iload_n C.1 C.2.1 dJ0_charAt_5068e_11 rfl (lv_at hl 1 rfl) ?_
  refine je_callS (A := fun _ => False) (v := some (.int (dby.getD i 0))) (As := [.ref (av 0), .int (nI i)]) (rest := []) C hX (c_J1ch l B ak av i hi) jy_J1_charAt_3b067 js_J1_charAt_3b067 jk_RJ0_495 rfl rfl hl.1 (by decide) (by decide) (by decide) (fun q h => h.elim) hS ⟨Nat.le_refl _, Nat.le_refl _⟩ dJ0_charAt_5068e_12 (fun H locs hS hk => ?_)
  exact W.zret C.1 C.2.1 C.2.2.2.1 (dby_c i hi).2 (fun t ht _ => ⟨rfl, hS.F ht⟩) hS.2.2 dJ0_charAt_5068e_15 (hlocks := C.2.2.2.2.2.2)
