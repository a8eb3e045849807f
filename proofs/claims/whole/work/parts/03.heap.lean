/-! the heap as plain functions: numbers, longs, pointers, by a cell's number and a place in it -/
/-- the tables' words that stay over a call -/
def gw : List Cond := lw_tbl.filter goodWord
abbrev Hp : Type := (Nat → Nat → Int32) × (Nat → Nat → Int64) × (Nat → Nat → Nat)
abbrev Ev : Type := va_G × (Nat → Nat) × (Nat → ClassId)
/-- a system: its cells' numbers; shape of each (1 an object of a class, 2 .. 8 arrays, their lengths); kinds of a class's fields; pointers that stay; pointer arrays; how many fields -/
abbrev Sy : Type := List Nat × (Nat → Nat × Nat) × (Nat → Nat → Nat) × (Nat → Nat → Nat) × (Nat → Nat → Nat) × (Nat → Nat)
def ho_sI (S : Hp) (a k : Nat) (v : Int32) : Hp := (fun b => if b = a then upd (S.1 a) k v else S.1 b, S.2)
def ho_sJ (S : Hp) (a k : Nat) (v : Int64) : Hp := (S.1, fun b => if b = a then vp_updL (S.2.1 a) k v else S.2.1 b, S.2.2)
def ho_sP (S : Hp) (a k v : Nat) : Hp := (S.1, S.2.1, fun b => if b = a then va_up (S.2.2 a) k v else S.2.2 b)
def ho_v (Y : Sy) (E : Ev) (S : Hp) (a c k : Nat) : Value :=
  if Y.2.2.1 c k = 0 then .int (S.1 a k) else if Y.2.2.1 c k = 1 then .long (S.2.1 a k) else if Y.2.2.1 c k = 2 then .ref (E.2.1 (Y.2.2.2.1 a k)) else .ref (E.2.1 (S.2.2 a k))
def ho_c (Y : Sy) (E : Ev) (S : Hp) (a : Nat) : va_E :=
  if (Y.2.1 a).1 = 1 then .inr ((Y.2.1 a).2, (List.range (Y.2.2.2.2.2 (Y.2.1 a).2)).map (ho_v Y E S a (Y.2.1 a).2))
  else if (Y.2.1 a).1 = 2 then .inl (E.2.2 0, (Y.2.1 a).2, .inl (S.1 a))
  else if (Y.2.1 a).1 = 3 then .inl (E.2.2 1, (Y.2.1 a).2, .inl (S.1 a))
  else if (Y.2.1 a).1 = 4 then .inl (E.2.2 2, (Y.2.1 a).2, .inl (S.1 a))
  else if (Y.2.1 a).1 = 5 then .inl (E.2.2 3, (Y.2.1 a).2, .inr (.inl (S.2.1 a)))
  else if (Y.2.1 a).1 = 6 then .inl (E.2.2 4, (Y.2.1 a).2, .inl (S.1 a))
  else if (Y.2.1 a).1 = 7 then .inl (E.2.2 5, (Y.2.1 a).2, .inr (.inr (.inr (.inr (fun i => some (E.2.1 (Y.2.2.2.2.1 a i)))))))
  else .inl (E.2.2 6, (Y.2.1 a).2, .inr (.inr (.inr (.inr (fun i => some (E.2.1 (Y.2.2.2.2.1 a i)))))))
def ho_w (Y : Sy) (E : Ev) (S : Hp) : va_W := Y.1.map (fun a => (E.2.1 a, ho_c Y E S a))
def ho_t (E : Ev) : List (ClassId × FieldType) := [(E.2.2 0, .byte), (E.2.2 1, .char), (E.2.2 2, .int), (E.2.2 3, .long), (E.2.2 4, .boolean), (E.2.2 5, .object "EmptyHat$State"), (E.2.2 6, .array .int)]
def ho_R (Y : Sy) (E : Ev) (A : Nat → Prop) (s : State) (H0 H : Heap) (locs : List Loc) (S : Hp) : Prop := va_K E.1 vwCl (ho_t E) s ∧ va_P E.1 vwCl (ho_w Y E S) H ∧ va_D A (ho_w Y E S) ∧ va_S A H0 H locs
/-- inside a method -/
abbrev ho_I (p : Program) (s : State) (m : MethodId) (args : Array Value) (meth : Method) (c : Code) (own : String) (cc : ByteArray) (nL : Nat) (ret : Option FieldType) : Prop :=
  p.tables.exec = Jvm.exec ∧ c.code = cc ∧ c.maxLocals = nL ∧ meth.sig.returnType = ret ∧ s.vm.findClass own = some m.cls ∧ (∀ w ∈ gw, w.before args s = true) ∧ meth.locks = false
/-- a class's tables -/
abbrev ho_F (ci : Nat) (Cn : String) (T : u_T) (ty : Nat → FieldType) (N : Nat) : Prop :=
  vwCl[ci]? = some (Cn, T, N) ∧ (∀ w ∈ u_ws Cn T N, w ∈ gw) ∧ (∀ k, k < N → parseFieldDescriptor (T k).2.2.1 = some (ty k)) ∧ (∀ a, a < N → ∀ b, b < N → a ≠ b → (T a).2.1 ≠ (T b).2.1)
theorem ho_at {Y : Sy} {a : Nat} (h : a ∈ Y.1) : ∃ q : Nat, Y.1[q]? = some a ∧ ∀ (E : Ev) (S : Hp), (ho_w Y E S)[q]? = some (E.2.1 a, ho_c Y E S a) := by
  obtain ⟨q, hq⟩ := List.getElem?_of_mem h
  exact ⟨q, hq, fun E S => by unfold ho_w; rw [List.getElem?_map, hq]; rfl⟩
theorem ho_set {Y : Sy} {E : Ev} {A : Nat → Prop} {S S' : Hp} {a q : Nat} (hD : va_D A (ho_w Y E S)) (hq : Y.1[q]? = some a) (hb : ∀ b, b ≠ a → ho_c Y E S' b = ho_c Y E S b) : (ho_w Y E S).set q (E.2.1 a, ho_c Y E S' a) = ho_w Y E S' := by
  apply List.ext_getElem?
  intro i
  have hw : ∀ (S : Hp) (i : Nat), (ho_w Y E S)[i]? = (Y.1[i]?).map (fun a => (E.2.1 a, ho_c Y E S a)) := fun S i => by unfold ho_w; rw [List.getElem?_map]
  rw [List.getElem?_set, hw S', hw S]
  by_cases hi : q = i
  · subst hi
    have hl : q < (ho_w Y E S).length := by unfold ho_w; rw [List.length_map]; exact (List.getElem?_eq_some_iff.mp hq).1
    rw [if_pos rfl, if_pos hl, hq]
    rfl
  · rw [if_neg hi]
    cases hb2 : Y.1[i]? with
    | none => rfl
    | some b =>
      have hne : b ≠ a := fun e => hi (hD.1 q i (E.2.1 a, ho_c Y E S a) (E.2.1 b, ho_c Y E S b) (by rw [hw, hq]; rfl) (by rw [hw, hb2]; rfl) (by rw [e]))
      show some (E.2.1 b, ho_c Y E S b) = some (E.2.1 b, ho_c Y E S' b)
      rw [hb b hne]
theorem ho_cI {Y : Sy} {E : Ev} {S : Hp} {a k : Nat} {v : Int32} : ∀ b, b ≠ a → ho_c Y E (ho_sI S a k v) b = ho_c Y E S b := by
  intro b hb
  have e : (ho_sI S a k v).1 b = S.1 b := if_neg hb
  have e2 : ho_v Y E (ho_sI S a k v) b = ho_v Y E S b := by
    funext c j
    unfold ho_v
    rw [e]
    rfl
  unfold ho_c
  rw [e, e2]
  rfl
theorem ho_cJ {Y : Sy} {E : Ev} {S : Hp} {a k : Nat} {v : Int64} : ∀ b, b ≠ a → ho_c Y E (ho_sJ S a k v) b = ho_c Y E S b := by
  intro b hb
  have e : (ho_sJ S a k v).2.1 b = S.2.1 b := if_neg hb
  have e2 : ho_v Y E (ho_sJ S a k v) b = ho_v Y E S b := by
    funext c j
    unfold ho_v
    rw [e]
    rfl
  unfold ho_c
  rw [e, e2]
  rfl
theorem ho_cP {Y : Sy} {E : Ev} {S : Hp} {a k : Nat} {v : Nat} : ∀ b, b ≠ a → ho_c Y E (ho_sP S a k v) b = ho_c Y E S b := by
  intro b hb
  have e : (ho_sP S a k v).2.2 b = S.2.2 b := if_neg hb
  have e2 : ho_v Y E (ho_sP S a k v) b = ho_v Y E S b := by
    funext c j
    unfold ho_v
    rw [e]
    rfl
  unfold ho_c
  rw [e2]
  rfl
/-- a field list with one place written -/
theorem ho_fs {n k : Nat} {f g : Nat → Value} {v : Value} (hk : g k = v) (hg : ∀ j, j ≠ k → g j = f j) : ((List.range n).map f).set k v = (List.range n).map g := by
  apply List.ext_getElem?
  intro i
  rw [List.getElem?_set, List.getElem?_map, List.getElem?_map]
  by_cases hi : k = i
  · subst hi
    rw [if_pos rfl]
    by_cases hl : k < n
    · rw [if_pos (by rw [List.length_map, List.length_range]; exact hl), List.getElem?_range hl]
      show some v = some (g k)
      rw [hk]
    · rw [if_neg (by rw [List.length_map, List.length_range]; exact hl), List.getElem?_eq_none (by rw [List.length_range]; omega)]
      rfl
  · rw [if_neg hi]
    by_cases hl : i < n
    · rw [List.getElem?_range hl]
      show some (f i) = some (g i)
      rw [hg i (fun e => hi e.symm)]
    · rw [List.getElem?_eq_none (by rw [List.length_range]; omega)]
      rfl
theorem gw_of {w : Cond} {i : Nat} (h : lw_tbl[i]? = some w) (hg : goodWord w = true) : w ∈ gw := List.mem_filter.mpr ⟨List.mem_of_getElem? h, hg⟩
section HO
variable {p : Program} {l : Launch} {e : Env} {R : Room} {s : State} {m : MethodId} {args : Array Value} {below : List Frame} {meth : Method} {c : Code} {H H0 : Heap} {locs : List Loc} {Q : State → Prop}
variable {Y : Sy} {E : Ev} {A : Nat → Prop} {S : Hp} {own : String} {cc : ByteArray} {nL : Nat} {ret : Option FieldType} {pc : Nat} {ls : Array Slot} {rest : List Value}
theorem ho_c1 {a ci : Nat} (hs : Y.2.1 a = (1, ci)) : ho_c Y E S a = .inr (ci, (List.range (Y.2.2.2.2.2 ci)).map (ho_v Y E S a ci)) := by
  unfold ho_c
  rw [hs]
  rfl
theorem ho_get {a ci k idx N : Nat} {Cn : String} {T : u_T} {ty : Nat → FieldType} {v : Value} (C : ho_I p s m args meth c own cc nL ret) (F : ho_F ci Cn T ty N) (hR : ho_R Y E A s H0 H locs S) (ha : a ∈ Y.1 ∧ Y.2.1 a = (1, ci)) (hn : Y.2.2.2.2.2 ci = N) (hk : k < N) (hw : Cond.fieldLink own idx (T k).1 (T k).2.1 (T k).2.2.1 ∈ gw) (hv : ho_v Y E S a ci k = v) (hdg : decode cc pc = .ok (.getfield idx, 3))
    (kk : W p l e R s m args below meth c H locs 0 0 Q (F0 m (pc + 3) ls (v :: rest))) : W p l e R s m args below meth c H locs 0 0 Q (F0 m pc ls (.ref (E.2.1 a) :: rest)) := by
  obtain ⟨hx, hb, -, -, hown, hts, -⟩ := C
  obtain ⟨q, -, hq⟩ := ho_at ha.1
  have he := hq E S
  rw [ho_c1 ha.2] at he
  refine va_get hx hb hts F.2.1 hown hR.1 hR.2.1 q he F.1 k hk (hts _ hw) (fun _ h9 => h9) ?_ hdg kk
  rw [List.getElem?_map, List.getElem?_range (by rw [hn]; exact hk)]
  exact congrArg some hv
theorem ho_put {a ci k idx N : Nat} {Cn : String} {T : u_T} {ty : Nat → FieldType} {ft : FieldType} {v : Value} {S' : Hp} (C : ho_I p s m args meth c own cc nL ret) (F : ho_F ci Cn T ty N) (hR : ho_R Y E A s H0 H locs S) (ha : a ∈ Y.1 ∧ Y.2.1 a = (1, ci)) (hn : Y.2.2.2.2.2 ci = N) (hk : k < N) (hw : Cond.fieldLink own idx (T k).1 (T k).2.1 (T k).2.2.1 ∈ gw) (hfin : (T k).2.2.2 = false) (hd : parseFieldDescriptor (T k).2.2.1 = some ft) (hna : narrow ft v = v) (hfit : fits ft v = true)
    (hv : ho_v Y E S' a ci k = v) (hv2 : ∀ j, j ≠ k → ho_v Y E S' a ci j = ho_v Y E S a ci j) (hb2 : ∀ b, b ≠ a → ho_c Y E S' b = ho_c Y E S b) (hdg : decode cc pc = .ok (.putfield idx, 3))
    (kk : ∀ (H1 : Heap) (locs1 : List Loc), ho_R Y E A s H0 H1 locs1 S' → W p l e R s m args below meth c H1 locs1 0 0 Q (F0 m (pc + 3) ls rest)) : W p l e R s m args below meth c H locs 0 0 Q (F0 m pc ls (v :: .ref (E.2.1 a) :: rest)) := by
  obtain ⟨hx, hb, -, -, hown, hts, -⟩ := C
  obtain ⟨q, hq0, hq⟩ := ho_at ha.1
  have he := hq E S
  rw [ho_c1 ha.2] at he
  obtain ⟨hK, hP, hD, hS⟩ := hR
  have e1 : ((List.range (Y.2.2.2.2.2 ci)).map (ho_v Y E S a ci)).set k v = (List.range (Y.2.2.2.2.2 ci)).map (ho_v Y E S' a ci) := ho_fs hv hv2
  refine va_put hx hb hts F.2.1 ty F.2.2.1 F.2.2.2 hown hK hP hD hS q he F.1 k hk (hts _ hw) (fun _ h9 => h9) hfin hd hna hfit (by rw [List.length_map, List.length_range, hn]; exact hk) hdg (fun H1 locs1 hP hD2 hS => ?_)
  rw [e1, ← ho_c1 ha.2, ho_set hD hq0 hb2] at hP hD2
  exact kk H1 locs1 ⟨hK, hP, hD2, hS⟩
end HO
