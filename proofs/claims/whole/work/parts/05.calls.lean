/-! contracts over the whole heap of a system, calls, ends -/
def ho_pc (Y : Sy) (E : Ev) (S : Hp) (sz : Nat) (U : State) : Prop := U.heap.size = sz ∧ va_P E.1 vwCl (ho_w Y E S) U.heap ∧ va_K E.1 vwCl (ho_t E) U ∧ va_D (fun _ => True) (ho_w Y E S)
def ho_Q (Y : Sy) (E : Ev) (S0 : Hp) (sz : Nat) (x : Option Value × Hp) : Array Value → State → Outcome → State → Prop := fun _ st oc t => oc = .returned x.1 ∧ (va_P E.1 vwCl (ho_w Y E x.2) t.heap ∧ va_D (va_A (ho_w Y E S0) sz) (ho_w Y E x.2)) ∧ va_F (va_A (ho_w Y E S0) sz) st t
def ho_rm (d : Nat) : Room := { frames := d, cells := 0, slots := 0, locals := 64 * d }
def ho_ws (y : MethodName) (cc : ByteArray) (mL : Nat) (ret : Option FieldType) : List Cond := .code y cc mL ret :: gw
def ho_M (l : Launch) (Y : Sy) (E : Ev) (y : MethodName) (cc : ByteArray) (mL : Nat) (ret : Option FieldType) (d : Nat) (av : List Value) (S : Hp) (x : Option Value × Hp) : Prop :=
  ∀ sz : Nat, Met l y (ho_ws y cc mL ret) (ho_rm d) (va_Pc av (ho_pc Y E S sz)) (ho_Q Y E S sz x) 0 0 (va_A (ho_w Y E S) sz)
/-- a method's end -/
abbrev ho_Z (Y : Sy) (E : Ev) (S0 : Hp) (below : List Frame) (args : Array Value) (s : State) (x : Option Value × Hp) : State → Prop := MQ below (ho_Q Y E S0 s.heap.size x) args s 0 0 (va_A (ho_w Y E S0) s.heap.size)
theorem ho_in {l : Launch} {Y : Sy} {E : Ev} {y : MethodName} {cc : ByteArray} {mL : Nat} {ret : Option FieldType} {d : Nat} {av : List Value} {S : Hp} {x : Option Value × Hp} (hy : plainName y.cls = true) (ha : (lg_sl av).length ≤ mL)
    (body : ∀ (p : Program) (e : Env) (s : State) (m : MethodId) (args : Array Value) (below : List Frame) (meth : Method) (c : Code), ho_I p s m args meth c y.cls cc mL ret → ho_R Y E (va_A (ho_w Y E S) s.heap.size) s s.heap s.heap [] S → ∀ ls : Array Slot, lv_has ls mL (lv_args 0 av) → W p l e (ho_rm d) s m args below meth c s.heap [] 0 0 (ho_Z Y E S below args s x) (F0 m 0 ls [])) : ho_M l Y E y cc mL ret d av S x := by
  intro sz
  refine Met.ofW (cc := cc) (maxL := mL) (ret := ret) hy rfl ?_
  intro p e s m args below meth c s₁ B hml hv
  obtain ⟨rfl, hsz, hP, hK, hD⟩ := hv
  subst hsz
  have hts := atoms_spec (ws := ho_ws y cc mL ret) B.pre
  have hl := lv_entry av (n := mL) ha
  rw [lg_entry_eq]
  exact body p e s m _ below meth c ⟨B.exec, B.bytes, hml, B.returns, findClass_of_methodNamed B.named, fun w hw => hts w (List.mem_cons_of_mem _ hw), B.notSynchronized⟩ ⟨hK, hP, hD.self, va_S.rf⟩ _ hl
section HO3
variable {p : Program} {l : Launch} {e : Env} {R : Room} {s : State} {m : MethodId} {args : Array Value} {below : List Frame} {meth : Method} {c : Code} {H H0 : Heap} {locs : List Loc} {Q : State → Prop}
variable {Y : Sy} {E : Ev} {A : Nat → Prop} {S S0 : Hp} {own : String} {cc : ByteArray} {nL : Nat} {ret : Option FieldType} {pc : Nat} {ls : Array Slot} {rest : List Value}
theorem ho_fin {x : Option Value} (hR : ho_R Y E (va_A (ho_w Y E S0) s.heap.size) s s.heap H locs S) : ∀ t : State, t.heap = H → s.WarmedH t.vm → ho_Q Y E S0 s.heap.size (x, S) args s (.returned x) t := by
  intro t ht _
  obtain ⟨-, hP, hD, hS⟩ := hR
  exact ⟨rfl, ⟨by rw [ht]; exact hP, hD⟩, hS.F ht⟩
theorem ho_iret {v : Int32} {r : Int32 × Hp} (C : ho_I p s m args meth c own cc nL (some .int)) (hR : ho_R Y E (va_A (ho_w Y E S0) s.heap.size) s s.heap H locs S) (h : some (v, S) = some r) (hdg : decode cc pc = .ok (.ireturn, 1)) : W p l e R s m args below meth c H locs 0 0 (ho_Z Y E S0 below args s (some (.int r.1), r.2)) (F0 m pc ls [.int v]) := by
  obtain rfl := Option.some.inj h
  exact W.iret C.1 C.2.1 C.2.2.2.1 (ho_fin hR) hR.2.2.2.2.2 hdg (hlocks := C.2.2.2.2.2.2)
theorem ho_zret {v : Int32} {r : Int32 × Hp} (C : ho_I p s m args meth c own cc nL (some .boolean)) (hR : ho_R Y E (va_A (ho_w Y E S0) s.heap.size) s s.heap H locs S) (hz : v = 0 ∨ v = 1) (h : some (v, S) = some r) (hdg : decode cc pc = .ok (.ireturn, 1)) : W p l e R s m args below meth c H locs 0 0 (ho_Z Y E S0 below args s (some (.int r.1), r.2)) (F0 m pc ls [.int v]) := by
  have hn : narrow .boolean (.int v) = .int v := by rcases hz with rfl | rfl <;> decide
  obtain rfl := Option.some.inj h
  exact W.zret C.1 C.2.1 C.2.2.2.1 hn (ho_fin hR) hR.2.2.2.2.2 hdg (hlocks := C.2.2.2.2.2.2)
theorem ho_lret {v : Int64} {r : Int64 × Hp} (C : ho_I p s m args meth c own cc nL (some .long)) (hR : ho_R Y E (va_A (ho_w Y E S0) s.heap.size) s s.heap H locs S) (h : some (v, S) = some r) (hdg : decode cc pc = .ok (.lreturn, 1)) : W p l e R s m args below meth c H locs 0 0 (ho_Z Y E S0 below args s (some (.long r.1), r.2)) (F0 m pc ls [.long v]) := by
  obtain rfl := Option.some.inj h
  exact W.lret C.1 C.2.1 C.2.2.2.1 (ho_fin hR) hR.2.2.2.2.2 hdg (hlocks := C.2.2.2.2.2.2)
theorem ho_vret {r : Hp} (C : ho_I p s m args meth c own cc nL none) (hR : ho_R Y E (va_A (ho_w Y E S0) s.heap.size) s s.heap H locs S) (h : some S = some r) (hdg : decode cc pc = .ok (.return_, 1)) : W p l e R s m args below meth c H locs 0 0 (ho_Z Y E S0 below args s (none, r)) (F0 m pc ls []) := by
  obtain rfl := Option.some.inj h
  exact W.vret C.1 C.2.1 C.2.2.2.1 (ho_fin hR) hR.2.2.2.2.2 hdg (hlocks := C.2.2.2.2.2.2)
theorem ho_call {x : Option Value × Hp} {a : Array Value} {st0 : List Value} (hr : va_Run p l e R s m args below meth c H locs 0 0 0 0 (F0 m pc ls st0) rest (ho_Q Y E S H.size x a) (va_A (ho_w Y E S) H.size)) (hR : ho_R Y E A s H0 H locs S) (hA : ∀ q, H0.size ≤ q → A q)
    (kk : ∀ (H1 : Heap) (locs1 : List Loc), ho_R Y E A s H0 H1 locs1 x.2 → W p l e R s m args below meth c H1 locs1 0 0 Q (F0 m (pc + 3) ls (x.1.toList ++ rest))) : W p l e R s m args below meth c H locs 0 0 Q (F0 m pc ls st0) := by
  obtain ⟨hK, hP, hD, hS⟩ := hR
  have hA1 : ∀ q, va_A (ho_w Y E S) H.size q → A q := by
    intro q h
    rcases h with ⟨k, e9, h⟩ | h
    · exact hD.2 k (q, e9) h
    · exact hA q (Nat.le_trans hS.1 h)
  intro T hT X
  obtain ⟨v, st₀, t, T', L, h0, X', hL, e1, e2, ⟨hv, ⟨hP1, hD1⟩, hz, hk⟩, st⟩ := hr T hT X
  cases hv
  rw [h0] at hz hk
  obtain ⟨t2, a1, b1⟩ := kk T'.heap (locs ++ L) ⟨hK, by rw [e1]; exact hP1, hD1.weaken (fun _ q _ h => hA1 q.1 h),
    ⟨Nat.le_trans hS.1 (by rw [e1]; exact hz), fun q h1 h2 => by rw [e1, hk q (Nat.lt_of_lt_of_le h1 hS.1) (fun z => h2 (hA1 q z))]; exact hS.2.1 q h1 h2, fun q hq => by
      rcases List.mem_append.mp hq with h | h
      · exact hS.2.2 q h
      · exact hA1 _ (hL q h)⟩⟩ T' rfl X'
  exact ⟨t2, st t2 a1, b1⟩
/-- a call's words -/
abbrev ho_d (y : MethodName) (n : Nat) : Prop := y.cls ≠ "java/lang/invoke/MethodHandle" ∧ y.cls ≠ "java/lang/invoke/VarHandle" ∧ (parseMethodDescriptor y.desc).map (fun d => d.parameters.length) = some n
abbrev ho_y (y : MethodName) (by2 : ByteArray) (mL : Nat) (rt : Option FieldType) (n : Nat) : Prop := Cond.code y by2 mL rt ∈ gw ∧ Cond.initialized y.cls ∈ gw ∧ ho_d y n
abbrev ho_yV (y : MethodName) (by2 : ByteArray) (mL : Nat) (rt : Option FieldType) (n : Nat) : Prop := ho_y y by2 mL rt n ∧ Cond.instanceMethod y ∈ gw ∧ Cond.selects y.cls y y ∈ gw
abbrev ho_yS (y : MethodName) (by2 : ByteArray) (mL : Nat) (rt : Option FieldType) (n : Nat) : Prop := ho_y y by2 mL rt n ∧ Cond.static y ∈ gw
theorem gw_good {w : Cond} (h : w ∈ gw) : (w.onTables && w.keeps) = true ∨ ∃ ty, w = .arrayClass ty := good_of_word (List.mem_filter.mp h).2
theorem ho_good {y : MethodName} {by2 : ByteArray} {mL : Nat} {rt : Option FieldType} (h : Cond.code y by2 mL rt ∈ gw) : GoodIn gw (ho_ws y by2 mL rt) := by
  intro w hw
  rcases List.mem_cons.mp hw with rfl | h2
  · exact ⟨h, gw_good h⟩
  · exact ⟨h2, gw_good h2⟩
theorem ho_blind {av : List Value} {sz : Nat} : FrameBlind (va_Pc av (ho_pc Y E S sz)) := fun a U g mk q => by
  obtain ⟨q0, q1, qP, qK, qD⟩ := q
  exact ⟨q0, q1, qP, va_K.moved (u := U) (U := U.calling g mk a) (Vm.Alike.refl U.vm) qK, qD⟩
theorem ho_pre (hR : ho_R Y E A s H0 H locs S) (av : List Value) : ∀ U : State, U.heap = H → s.WarmedH U.vm → va_Pc av (ho_pc Y E S H.size) av.toArray U := fun U hU hW => by
  obtain ⟨hK, hP, hD, -⟩ := hR
  exact ⟨rfl, by rw [hU], by rw [hU]; exact hP, va_K.moved hW.alike hK, hD.weaken (fun _ _ _ _ => trivial)⟩
/-- invokevirtual of a method of a class of the system -/
theorem ho_callV {y : MethodName} {by2 : ByteArray} {mL n d d2 idx b ci N : Nat} {rt : Option FieldType} {Cn : String} {T : u_T} {ty : Nat → FieldType} {As : List Value} {x : Option Value × Hp} (C : ho_I p s m args meth c own cc nL ret) (F : ho_F ci Cn T ty N) (hM : ho_M l Y E y by2 mL rt d2 (.ref (E.2.1 b) :: As) S x) (hy : ho_yV y by2 mL rt n) (hlk : Cond.methodLink own idx y ∈ gw) (hC : y.cls = Cn) (hb : b ∈ Y.1 ∧ Y.2.1 b = (1, ci)) (hn : As.length = n)
    (hsz : ls.size = nL) (hst : (rest.map fun v => v.category).sum ≤ 8) (hd : d2 + 1 ≤ d) (hmL : mL ≤ 45) (hR : ho_R Y E A s H0 H locs S) (hA : ∀ q, H0.size ≤ q → A q) (hdg : decode cc pc = .ok (.invokevirtual idx, 3))
    (kk : ∀ (H1 : Heap) (locs1 : List Loc), ho_R Y E A s H0 H1 locs1 x.2 → W p l e (ho_rm d) s m args below meth c H1 locs1 0 0 Q (F0 m (pc + 3) ls (x.1.toList ++ rest))) : W p l e (ho_rm d) s m args below meth c H locs 0 0 Q (F0 m pc ls (As.reverse ++ .ref (E.2.1 b) :: rest)) := by
  obtain ⟨hx, hbc, hml, -, hown, hts, -⟩ := C
  obtain ⟨⟨hc, hi, hd1⟩, hin, hse⟩ := hy
  obtain ⟨q, -, hq⟩ := ho_at hb.1
  have he := hq E S
  rw [ho_c1 hb.2] at he
  subst hC
  have hroom : (ho_rm d2).frames + 1 ≤ (ho_rm d).frames ∧ 8 + (mL + 11) + (ho_rm d2).locals ≤ (ho_rm d).locals := ⟨hd, by show 8 + (mL + 11) + 64 * d2 ≤ 64 * d; omega⟩
  refine ho_call (va_runV (As := As) (rest := rest) ⟨hx, hbc, hml, hown, hts⟩ (hM H.size) ⟨callB_of n hts (ho_good hc) rfl rfl rfl (hts _ hi) (hts _ hlk) hd1 hroom, hts _ hin, hts _ hse⟩ ⟨ho_blind, va_recv hR.1 hR.2.1 F.1 he, ho_pre hR _⟩ rfl hn hsz rfl (lv_room hst) hdg ⟨Nat.zero_le _, Nat.zero_le _⟩) hR hA kk
/-- invokestatic -/
theorem ho_callS {y : MethodName} {by2 : ByteArray} {mL n d d2 idx : Nat} {rt : Option FieldType} {As : List Value} {x : Option Value × Hp} (C : ho_I p s m args meth c own cc nL ret) (hM : ho_M l Y E y by2 mL rt d2 As S x) (hy : ho_yS y by2 mL rt n) (hlk : Cond.methodLink own idx y ∈ gw) (hn : As.length = n)
    (hsz : ls.size = nL) (hst : (rest.map fun v => v.category).sum ≤ 8) (hd : d2 + 1 ≤ d) (hmL : mL ≤ 45) (hR : ho_R Y E A s H0 H locs S) (hA : ∀ q, H0.size ≤ q → A q) (hdg : decode cc pc = .ok (.invokestatic idx, 3))
    (kk : ∀ (H1 : Heap) (locs1 : List Loc), ho_R Y E A s H0 H1 locs1 x.2 → W p l e (ho_rm d) s m args below meth c H1 locs1 0 0 Q (F0 m (pc + 3) ls (x.1.toList ++ rest))) : W p l e (ho_rm d) s m args below meth c H locs 0 0 Q (F0 m pc ls (As.reverse ++ rest)) := by
  obtain ⟨hx, hbc, hml, -, hown, hts, -⟩ := C
  obtain ⟨⟨hc, hi, hd1⟩, hstt⟩ := hy
  have hroom : (ho_rm d2).frames + 1 ≤ (ho_rm d).frames ∧ 8 + (mL + 11) + (ho_rm d2).locals ≤ (ho_rm d).locals := ⟨hd, by show 8 + (mL + 11) + 64 * d2 ≤ 64 * d; omega⟩
  refine ho_call (va_runS (As := As) (rest := rest) ⟨hx, hbc, hml, hown, hts⟩ (hM H.size) ⟨callB_of n hts (ho_good hc) rfl rfl rfl (hts _ hi) (hts _ hlk) hd1 hroom, hts _ hstt⟩ ⟨ho_blind, ho_pre hR _⟩ rfl hn hsz rfl (lv_room hst) hdg ⟨Nat.zero_le _, Nat.zero_le _⟩) hR hA kk
theorem ho_A (hR : ho_R Y E (va_A (ho_w Y E S0) s.heap.size) s s.heap H locs S) : ∀ q, s.heap.size ≤ q → va_A (ho_w Y E S0) s.heap.size q := fun _ h => Or.inr h
end HO3
/-! plain words that the methods' functions are made of -/
def ob {α β : Type} (x : Option α) (f : α → Option β) : Option β := match x with
  | some v => f v
  | none => none
def ob2 {α β : Type} (x : Option (α × Hp)) (f : α → Hp → Option β) : Option β := match x with
  | some v => f v.1 v.2
  | none => none
def le1 {α β : Type} (x : α) (f : α → β) : β := f x
theorem ob_ok {α β : Type} {x : Option α} {f : α → Option β} {r : β} (h : ob x f = some r) : ∃ v, x = some v ∧ f v = some r := by
  cases x with
  | none => cases h
  | some v => exact ⟨v, rfl, h⟩
theorem ob2_ok {α β : Type} {x : Option (α × Hp)} {f : α → Hp → Option β} {r : β} (h : ob2 x f = some r) : ∃ v S, x = some (v, S) ∧ f v S = some r := by
  cases x with
  | none => cases h
  | some v => exact ⟨v.1, v.2, rfl, h⟩
theorem le1_ok {α β : Type} {x : α} {f : α → β} {r : β} (h : le1 x f = r) : ∃ v, v = x ∧ f v = r := ⟨x, rfl, h⟩
theorem if_t {α : Type} {c : Prop} {_ : Decidable c} {a b r : α} (h : (if c then a else b) = r) (hc : c) : a = r := by rw [if_pos hc] at h; exact h
theorem if_f {α : Type} {c : Prop} {_ : Decidable c} {a b r : α} (h : (if c then a else b) = r) (hc : ¬ c) : b = r := by rw [if_neg hc] at h; exact h
/-- a place of a row: within it, or none -/
def ix {β : Type} (n : Nat) (i : Int32) (f : Nat → Option β) : Option β := if i < 0 ∨ n ≤ i.toNatClampNeg then none else f i.toNatClampNeg
theorem ix_ok {β : Type} {n : Nat} {i : Int32} {f : Nat → Option β} {r : β} (h : ix n i f = some r) : vp_in i n ∧ f i.toNatClampNeg = some r := by
  unfold ix at h
  by_cases hc : i < 0 ∨ n ≤ i.toNatClampNeg
  · rw [if_pos hc] at h; cases h
  · rw [if_neg hc] at h; exact ⟨hc, h⟩
/-- a truth: 0 or 1 -/
def tr {β : Type} (v : Int32) (x : Option β) : Option β := if v = 0 ∨ v = 1 then x else none
theorem tr_ok {β : Type} {v : Int32} {x : Option β} {r : β} (h : tr v x = some r) : (v = 0 ∨ v = 1) ∧ x = some r := by
  unfold tr at h
  by_cases hc : v = 0 ∨ v = 1
  · rw [if_pos hc] at h; exact ⟨hc, h⟩
  · rw [if_neg hc] at h; cases h
/-- a divisor: not 0 -/
def nz {β : Type} (v : Int32) (x : Option β) : Option β := if v = 0 then none else x
theorem nz_ok {β : Type} {v : Int32} {x : Option β} {r : β} (h : nz v x = some r) : ¬ v = 0 ∧ x = some r := by
  unfold nz at h
  by_cases hc : v = 0
  · rw [if_pos hc] at h; cases h
  · rw [if_neg hc] at h; exact ⟨hc, h⟩
def nzl {β : Type} (v : Int64) (x : Option β) : Option β := if v = 0 then none else x
theorem nzl_ok {β : Type} {v : Int64} {x : Option β} {r : β} (h : nzl v x = some r) : ¬ v = 0 ∧ x = some r := by
  unfold nzl at h
  by_cases hc : v = 0
  · rw [if_pos hc] at h; cases h
  · rw [if_neg hc] at h; exact ⟨hc, h⟩
theorem le1_at {α β : Type} {x y : α} {f : α → β} {r : β} (e : y = x) (h : le1 x f = r) : f y = r := by subst e; exact h
/-- a place of a row, read -/
def ldI {β : Type} (S : Hp) (a n : Nat) (i : Int32) (f : Int32 → Option β) : Option β := if i < 0 ∨ n ≤ i.toNatClampNeg then none else f (S.1 a i.toNatClampNeg)
def ldJ {β : Type} (S : Hp) (a n : Nat) (i : Int32) (f : Int64 → Option β) : Option β := if i < 0 ∨ n ≤ i.toNatClampNeg then none else f (S.2.1 a i.toNatClampNeg)
/-- a place of a row, written -/
def stI {β : Type} (S : Hp) (a n : Nat) (i v : Int32) (f : Hp → Option β) : Option β := if i < 0 ∨ n ≤ i.toNatClampNeg then none else f (ho_sI S a i.toNatClampNeg v)
def stJ {β : Type} (S : Hp) (a n : Nat) (i : Int32) (v : Int64) (f : Hp → Option β) : Option β := if i < 0 ∨ n ≤ i.toNatClampNeg then none else f (ho_sJ S a i.toNatClampNeg v)
theorem ldI_ok {β : Type} {S : Hp} {a n : Nat} {i : Int32} {f : Int32 → Option β} {r : β} (h : ldI S a n i f = some r) : ∃ v, v = S.1 a i.toNatClampNeg ∧ vp_in i n ∧ f v = some r := by
  unfold ldI at h
  by_cases hc : i < 0 ∨ n ≤ i.toNatClampNeg
  · rw [if_pos hc] at h; cases h
  · rw [if_neg hc] at h; exact ⟨_, rfl, hc, h⟩
theorem ldJ_ok {β : Type} {S : Hp} {a n : Nat} {i : Int32} {f : Int64 → Option β} {r : β} (h : ldJ S a n i f = some r) : ∃ v, v = S.2.1 a i.toNatClampNeg ∧ vp_in i n ∧ f v = some r := by
  unfold ldJ at h
  by_cases hc : i < 0 ∨ n ≤ i.toNatClampNeg
  · rw [if_pos hc] at h; cases h
  · rw [if_neg hc] at h; exact ⟨_, rfl, hc, h⟩
theorem stI_ok {β : Type} {S : Hp} {a n : Nat} {i v : Int32} {f : Hp → Option β} {r : β} (h : stI S a n i v f = some r) : ∃ S', S' = ho_sI S a i.toNatClampNeg v ∧ vp_in i n ∧ f S' = some r := by
  unfold stI at h
  by_cases hc : i < 0 ∨ n ≤ i.toNatClampNeg
  · rw [if_pos hc] at h; cases h
  · rw [if_neg hc] at h; exact ⟨_, rfl, hc, h⟩
theorem stJ_ok {β : Type} {S : Hp} {a n : Nat} {i : Int32} {v : Int64} {f : Hp → Option β} {r : β} (h : stJ S a n i v f = some r) : ∃ S', S' = ho_sJ S a i.toNatClampNeg v ∧ vp_in i n ∧ f S' = some r := by
  unfold stJ at h
  by_cases hc : i < 0 ∨ n ≤ i.toNatClampNeg
  · rw [if_pos hc] at h; cases h
  · rw [if_neg hc] at h; exact ⟨_, rfl, hc, h⟩
/-- the goal at a place of a method's code -/
abbrev ho_G (p : Program) (l : Launch) (e : Env) (s : State) (m : MethodId) (args : Array Value) (below : List Frame) (meth : Method) (c : Code) (Y : Sy) (E : Ev) (S0 : Hp) (d mL : Nat) (x : Option Value × Hp) (pc : Nat) (lv : List (Nat × Value)) (st : List Value) (S : Hp) : Prop :=
  ∀ (H : Heap) (locs : List Loc) (ls : Array Slot), ho_R Y E (va_A (ho_w Y E S0) s.heap.size) s s.heap H locs S → lv_has ls mL lv → W p l e (ho_rm d) s m args below meth c H locs 0 0 (ho_Z Y E S0 below args s x) (F0 m pc ls st)
section HO4
variable {p : Program} {l : Launch} {e : Env} {R : Room} {s : State} {m : MethodId} {args : Array Value} {below : List Frame} {meth : Method} {c : Code} {H H0 : Heap} {locs : List Loc} {Q : State → Prop}
variable {Y : Sy} {E : Ev} {A : Nat → Prop} {S S' : Hp} {own : String} {cc : ByteArray} {nL : Nat} {ret : Option FieldType} {pc : Nat} {ls : Array Slot} {rest : List Value}
variable {a ci k idx N n : Nat} {Cn : String} {T : u_T} {ty : Nat → FieldType} {v i : Int32} {w : Int64}
theorem hr_putI (C : ho_I p s m args meth c own cc nL ret) (F : ho_F ci Cn T ty N) (hf : ho_f Y own ci T N idx k 0 .int false) (hR : ho_R Y E A s H0 H locs S) (ha : a ∈ Y.1 ∧ Y.2.1 a = (1, ci)) (e1 : S' = ho_sI S a k v) (hdg : decode cc pc = .ok (.putfield idx, 3))
    (kk : ∀ (H1 : Heap) (locs1 : List Loc), ho_R Y E A s H0 H1 locs1 S' → W p l e R s m args below meth c H1 locs1 0 0 Q (F0 m (pc + 3) ls rest)) : W p l e R s m args below meth c H locs 0 0 Q (F0 m pc ls (.int v :: .ref (E.2.1 a) :: rest)) := by
  subst e1; exact ho_putI C F hf hR ha hdg kk
theorem hr_putZ (C : ho_I p s m args meth c own cc nL ret) (F : ho_F ci Cn T ty N) (hf : ho_f Y own ci T N idx k 0 .boolean false) (hR : ho_R Y E A s H0 H locs S) (ha : a ∈ Y.1 ∧ Y.2.1 a = (1, ci)) (hz : v = 0 ∨ v = 1) (e1 : S' = ho_sI S a k v) (hdg : decode cc pc = .ok (.putfield idx, 3))
    (kk : ∀ (H1 : Heap) (locs1 : List Loc), ho_R Y E A s H0 H1 locs1 S' → W p l e R s m args below meth c H1 locs1 0 0 Q (F0 m (pc + 3) ls rest)) : W p l e R s m args below meth c H locs 0 0 Q (F0 m pc ls (.int v :: .ref (E.2.1 a) :: rest)) := by
  subst e1; exact ho_putZ C F hf hR ha hz hdg kk
theorem hr_putJ (C : ho_I p s m args meth c own cc nL ret) (F : ho_F ci Cn T ty N) (hf : ho_f Y own ci T N idx k 1 .long false) (hR : ho_R Y E A s H0 H locs S) (ha : a ∈ Y.1 ∧ Y.2.1 a = (1, ci)) (e1 : S' = ho_sJ S a k w) (hdg : decode cc pc = .ok (.putfield idx, 3))
    (kk : ∀ (H1 : Heap) (locs1 : List Loc), ho_R Y E A s H0 H1 locs1 S' → W p l e R s m args below meth c H1 locs1 0 0 Q (F0 m (pc + 3) ls rest)) : W p l e R s m args below meth c H locs 0 0 Q (F0 m pc ls (.long w :: .ref (E.2.1 a) :: rest)) := by
  subst e1; exact ho_putJ C F hf hR ha hdg kk
theorem hr_ild (C : ho_I p s m args meth c own cc nL ret) (hR : ho_R Y E A s H0 H locs S) (ha : a ∈ Y.1 ∧ Y.2.1 a = (4, n)) (hin : vp_in i n) (e1 : v = S.1 a i.toNatClampNeg) (hdg : decode cc pc = .ok (.iaload, 1))
    (kk : W p l e R s m args below meth c H locs 0 0 Q (F0 m (pc + 1) ls (.int v :: rest))) : W p l e R s m args below meth c H locs 0 0 Q (F0 m pc ls (.int i :: .ref (E.2.1 a) :: rest)) := by
  subst e1; exact ho_ild C hR ha hin hdg kk
theorem hr_cld (C : ho_I p s m args meth c own cc nL ret) (hR : ho_R Y E A s H0 H locs S) (ha : a ∈ Y.1 ∧ Y.2.1 a = (3, n)) (hin : vp_in i n) (e1 : v = S.1 a i.toNatClampNeg) (hdg : decode cc pc = .ok (.caload, 1))
    (kk : W p l e R s m args below meth c H locs 0 0 Q (F0 m (pc + 1) ls (.int v :: rest))) : W p l e R s m args below meth c H locs 0 0 Q (F0 m pc ls (.int i :: .ref (E.2.1 a) :: rest)) := by
  subst e1; exact ho_cld C hR ha hin hdg kk
theorem hr_bld (C : ho_I p s m args meth c own cc nL ret) (hR : ho_R Y E A s H0 H locs S) (ha : a ∈ Y.1 ∧ Y.2.1 a = (2, n)) (hin : vp_in i n) (e1 : v = S.1 a i.toNatClampNeg) (hdg : decode cc pc = .ok (.baload, 1))
    (kk : W p l e R s m args below meth c H locs 0 0 Q (F0 m (pc + 1) ls (.int v :: rest))) : W p l e R s m args below meth c H locs 0 0 Q (F0 m pc ls (.int i :: .ref (E.2.1 a) :: rest)) := by
  subst e1; exact ho_bld C hR ha hin hdg kk
theorem hr_zld (C : ho_I p s m args meth c own cc nL ret) (hR : ho_R Y E A s H0 H locs S) (ha : a ∈ Y.1 ∧ Y.2.1 a = (6, n)) (hin : vp_in i n) (e1 : v = S.1 a i.toNatClampNeg) (hdg : decode cc pc = .ok (.baload, 1))
    (kk : W p l e R s m args below meth c H locs 0 0 Q (F0 m (pc + 1) ls (.int v :: rest))) : W p l e R s m args below meth c H locs 0 0 Q (F0 m pc ls (.int i :: .ref (E.2.1 a) :: rest)) := by
  subst e1; exact ho_zld C hR ha hin hdg kk
theorem hr_lld (C : ho_I p s m args meth c own cc nL ret) (hR : ho_R Y E A s H0 H locs S) (ha : a ∈ Y.1 ∧ Y.2.1 a = (5, n)) (hin : vp_in i n) (e1 : w = S.2.1 a i.toNatClampNeg) (hdg : decode cc pc = .ok (.laload, 1))
    (kk : W p l e R s m args below meth c H locs 0 0 Q (F0 m (pc + 1) ls (.long w :: rest))) : W p l e R s m args below meth c H locs 0 0 Q (F0 m pc ls (.int i :: .ref (E.2.1 a) :: rest)) := by
  subst e1; exact ho_lld C hR ha hin hdg kk
theorem hr_ist (C : ho_I p s m args meth c own cc nL ret) (hR : ho_R Y E A s H0 H locs S) (ha : a ∈ Y.1 ∧ Y.2.1 a = (4, n)) (hin : vp_in i n) (e1 : S' = ho_sI S a i.toNatClampNeg v) (hdg : decode cc pc = .ok (.iastore, 1))
    (kk : ∀ (H1 : Heap) (locs1 : List Loc), ho_R Y E A s H0 H1 locs1 S' → W p l e R s m args below meth c H1 locs1 0 0 Q (F0 m (pc + 1) ls rest)) : W p l e R s m args below meth c H locs 0 0 Q (F0 m pc ls (.int v :: .int i :: .ref (E.2.1 a) :: rest)) := by
  subst e1; exact ho_ist C hR ha hin hdg kk
theorem hr_bst (C : ho_I p s m args meth c own cc nL ret) (hR : ho_R Y E A s H0 H locs S) (ha : a ∈ Y.1 ∧ Y.2.1 a = (2, n)) (hin : vp_in i n) (e1 : S' = ho_sI S a i.toNatClampNeg (vp_nar .byte v)) (hdg : decode cc pc = .ok (.bastore, 1))
    (kk : ∀ (H1 : Heap) (locs1 : List Loc), ho_R Y E A s H0 H1 locs1 S' → W p l e R s m args below meth c H1 locs1 0 0 Q (F0 m (pc + 1) ls rest)) : W p l e R s m args below meth c H locs 0 0 Q (F0 m pc ls (.int v :: .int i :: .ref (E.2.1 a) :: rest)) := by
  subst e1; exact ho_bst C hR ha hin hdg kk
theorem hr_zst (C : ho_I p s m args meth c own cc nL ret) (hR : ho_R Y E A s H0 H locs S) (ha : a ∈ Y.1 ∧ Y.2.1 a = (6, n)) (hin : vp_in i n) (e1 : S' = ho_sI S a i.toNatClampNeg (vp_nar .boolean v)) (hdg : decode cc pc = .ok (.bastore, 1))
    (kk : ∀ (H1 : Heap) (locs1 : List Loc), ho_R Y E A s H0 H1 locs1 S' → W p l e R s m args below meth c H1 locs1 0 0 Q (F0 m (pc + 1) ls rest)) : W p l e R s m args below meth c H locs 0 0 Q (F0 m pc ls (.int v :: .int i :: .ref (E.2.1 a) :: rest)) := by
  subst e1; exact ho_zst C hR ha hin hdg kk
theorem hr_lst (C : ho_I p s m args meth c own cc nL ret) (hR : ho_R Y E A s H0 H locs S) (ha : a ∈ Y.1 ∧ Y.2.1 a = (5, n)) (hin : vp_in i n) (e1 : S' = ho_sJ S a i.toNatClampNeg w) (hdg : decode cc pc = .ok (.lastore, 1))
    (kk : ∀ (H1 : Heap) (locs1 : List Loc), ho_R Y E A s H0 H1 locs1 S' → W p l e R s m args below meth c H1 locs1 0 0 Q (F0 m (pc + 1) ls rest)) : W p l e R s m args below meth c H locs 0 0 Q (F0 m pc ls (.long w :: .int i :: .ref (E.2.1 a) :: rest)) := by
  subst e1; exact ho_lst C hR ha hin hdg kk
end HO4
section HO5
variable {p : Program} {l : Launch} {e : Env} {s : State} {m : MethodId} {args : Array Value} {below : List Frame} {meth : Method} {c : Code} {H H0 : Heap} {locs : List Loc} {Q : State → Prop}
variable {Y : Sy} {E : Ev} {A : Nat → Prop} {S S' : Hp} {own : String} {cc : ByteArray} {nL : Nat} {ret : Option FieldType} {pc : Nat} {ls : Array Slot} {rest st0 : List Value}
variable {y : MethodName} {by2 : ByteArray} {mL n d d2 idx b ci N : Nat} {rt : Option FieldType} {Cn : String} {T : u_T} {ty : Nat → FieldType} {As : List Value} {v : Int32} {w : Int64}
theorem hr_Vi (C : ho_I p s m args meth c own cc nL ret) (F : ho_F ci Cn T ty N) (hM : ho_M l Y E y by2 mL rt d2 (.ref (E.2.1 b) :: As) S (some (.int v), S')) (hy : ho_yV y by2 mL rt n) (hlk : Cond.methodLink own idx y ∈ gw) (hC : y.cls = Cn) (hb : b ∈ Y.1 ∧ Y.2.1 b = (1, ci)) (hn : As.length = n) (h0 : st0 = As.reverse ++ .ref (E.2.1 b) :: rest)
    (hsz : ls.size = nL) (hst : (rest.map fun v => v.category).sum ≤ 8) (hd : d2 + 1 ≤ d) (hmL : mL ≤ 45) (hR : ho_R Y E A s H0 H locs S) (hA : ∀ q, H0.size ≤ q → A q) (hdg : decode cc pc = .ok (.invokevirtual idx, 3))
    (kk : ∀ (H1 : Heap) (locs1 : List Loc), ho_R Y E A s H0 H1 locs1 S' → W p l e (ho_rm d) s m args below meth c H1 locs1 0 0 Q (F0 m (pc + 3) ls (.int v :: rest))) : W p l e (ho_rm d) s m args below meth c H locs 0 0 Q (F0 m pc ls st0) := by
  subst h0; exact ho_callV C F hM hy hlk hC hb hn hsz hst hd hmL hR hA hdg kk
theorem hr_Vl (C : ho_I p s m args meth c own cc nL ret) (F : ho_F ci Cn T ty N) (hM : ho_M l Y E y by2 mL rt d2 (.ref (E.2.1 b) :: As) S (some (.long w), S')) (hy : ho_yV y by2 mL rt n) (hlk : Cond.methodLink own idx y ∈ gw) (hC : y.cls = Cn) (hb : b ∈ Y.1 ∧ Y.2.1 b = (1, ci)) (hn : As.length = n) (h0 : st0 = As.reverse ++ .ref (E.2.1 b) :: rest)
    (hsz : ls.size = nL) (hst : (rest.map fun v => v.category).sum ≤ 8) (hd : d2 + 1 ≤ d) (hmL : mL ≤ 45) (hR : ho_R Y E A s H0 H locs S) (hA : ∀ q, H0.size ≤ q → A q) (hdg : decode cc pc = .ok (.invokevirtual idx, 3))
    (kk : ∀ (H1 : Heap) (locs1 : List Loc), ho_R Y E A s H0 H1 locs1 S' → W p l e (ho_rm d) s m args below meth c H1 locs1 0 0 Q (F0 m (pc + 3) ls (.long w :: rest))) : W p l e (ho_rm d) s m args below meth c H locs 0 0 Q (F0 m pc ls st0) := by
  subst h0; exact ho_callV C F hM hy hlk hC hb hn hsz hst hd hmL hR hA hdg kk
theorem hr_Vv (C : ho_I p s m args meth c own cc nL ret) (F : ho_F ci Cn T ty N) (hM : ho_M l Y E y by2 mL rt d2 (.ref (E.2.1 b) :: As) S (none, S')) (hy : ho_yV y by2 mL rt n) (hlk : Cond.methodLink own idx y ∈ gw) (hC : y.cls = Cn) (hb : b ∈ Y.1 ∧ Y.2.1 b = (1, ci)) (hn : As.length = n) (h0 : st0 = As.reverse ++ .ref (E.2.1 b) :: rest)
    (hsz : ls.size = nL) (hst : (rest.map fun v => v.category).sum ≤ 8) (hd : d2 + 1 ≤ d) (hmL : mL ≤ 45) (hR : ho_R Y E A s H0 H locs S) (hA : ∀ q, H0.size ≤ q → A q) (hdg : decode cc pc = .ok (.invokevirtual idx, 3))
    (kk : ∀ (H1 : Heap) (locs1 : List Loc), ho_R Y E A s H0 H1 locs1 S' → W p l e (ho_rm d) s m args below meth c H1 locs1 0 0 Q (F0 m (pc + 3) ls rest)) : W p l e (ho_rm d) s m args below meth c H locs 0 0 Q (F0 m pc ls st0) := by
  subst h0; exact ho_callV C F hM hy hlk hC hb hn hsz hst hd hmL hR hA hdg kk
theorem hr_Si (C : ho_I p s m args meth c own cc nL ret) (hM : ho_M l Y E y by2 mL rt d2 As S (some (.int v), S')) (hy : ho_yS y by2 mL rt n) (hlk : Cond.methodLink own idx y ∈ gw) (hn : As.length = n) (h0 : st0 = As.reverse ++ rest)
    (hsz : ls.size = nL) (hst : (rest.map fun v => v.category).sum ≤ 8) (hd : d2 + 1 ≤ d) (hmL : mL ≤ 45) (hR : ho_R Y E A s H0 H locs S) (hA : ∀ q, H0.size ≤ q → A q) (hdg : decode cc pc = .ok (.invokestatic idx, 3))
    (kk : ∀ (H1 : Heap) (locs1 : List Loc), ho_R Y E A s H0 H1 locs1 S' → W p l e (ho_rm d) s m args below meth c H1 locs1 0 0 Q (F0 m (pc + 3) ls (.int v :: rest))) : W p l e (ho_rm d) s m args below meth c H locs 0 0 Q (F0 m pc ls st0) := by
  subst h0; exact ho_callS C hM hy hlk hn hsz hst hd hmL hR hA hdg kk
theorem hr_Sl (C : ho_I p s m args meth c own cc nL ret) (hM : ho_M l Y E y by2 mL rt d2 As S (some (.long w), S')) (hy : ho_yS y by2 mL rt n) (hlk : Cond.methodLink own idx y ∈ gw) (hn : As.length = n) (h0 : st0 = As.reverse ++ rest)
    (hsz : ls.size = nL) (hst : (rest.map fun v => v.category).sum ≤ 8) (hd : d2 + 1 ≤ d) (hmL : mL ≤ 45) (hR : ho_R Y E A s H0 H locs S) (hA : ∀ q, H0.size ≤ q → A q) (hdg : decode cc pc = .ok (.invokestatic idx, 3))
    (kk : ∀ (H1 : Heap) (locs1 : List Loc), ho_R Y E A s H0 H1 locs1 S' → W p l e (ho_rm d) s m args below meth c H1 locs1 0 0 Q (F0 m (pc + 3) ls (.long w :: rest))) : W p l e (ho_rm d) s m args below meth c H locs 0 0 Q (F0 m pc ls st0) := by
  subst h0; exact ho_callS C hM hy hlk hn hsz hst hd hmL hR hA hdg kk
theorem hr_Sv (C : ho_I p s m args meth c own cc nL ret) (hM : ho_M l Y E y by2 mL rt d2 As S (none, S')) (hy : ho_yS y by2 mL rt n) (hlk : Cond.methodLink own idx y ∈ gw) (hn : As.length = n) (h0 : st0 = As.reverse ++ rest)
    (hsz : ls.size = nL) (hst : (rest.map fun v => v.category).sum ≤ 8) (hd : d2 + 1 ≤ d) (hmL : mL ≤ 45) (hR : ho_R Y E A s H0 H locs S) (hA : ∀ q, H0.size ≤ q → A q) (hdg : decode cc pc = .ok (.invokestatic idx, 3))
    (kk : ∀ (H1 : Heap) (locs1 : List Loc), ho_R Y E A s H0 H1 locs1 S' → W p l e (ho_rm d) s m args below meth c H1 locs1 0 0 Q (F0 m (pc + 3) ls rest)) : W p l e (ho_rm d) s m args below meth c H locs 0 0 Q (F0 m pc ls st0) := by
  subst h0; exact ho_callS C hM hy hlk hn hsz hst hd hmL hR hA hdg kk
end HO5
/-- a class's layout words, by their places in the tables -/
theorem ho_inOf {C : String} {T : u_T} {N : Nat} (L : List Nat) (h : (List.range N).all (fun k => decide (lw_tbl[L.getD k 0]? = some (u_lay C T k)) && goodWord (u_lay C T k)) = true) : ∀ w ∈ u_ws C T N, w ∈ gw := by
  intro w hw
  unfold u_ws at hw
  obtain ⟨k, hk, rfl⟩ := List.mem_map.mp hw
  have h1 := List.all_eq_true.mp h k hk
  simp only [Bool.and_eq_true, decide_eq_true_eq] at h1
  exact gw_of h1.1 h1.2
