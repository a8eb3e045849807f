section HO2
variable {p : Program} {l : Launch} {e : Env} {R : Room} {s : State} {m : MethodId} {args : Array Value} {below : List Frame} {meth : Method} {c : Code} {H H0 : Heap} {locs : List Loc} {Q : State → Prop}
variable {Y : Sy} {E : Ev} {A : Nat → Prop} {S : Hp} {own : String} {cc : ByteArray} {nL : Nat} {ret : Option FieldType} {pc : Nat} {ls : Array Slot} {rest : List Value}
/-- a field by its link: the class's number, the place, the kind -/
abbrev ho_f (Y : Sy) (own : String) (ci : Nat) (T : u_T) (N idx k kd : Nat) (ft : FieldType) (fin : Bool) : Prop := Y.2.2.2.2.2 ci = N ∧ k < N ∧ Cond.fieldLink own idx (T k).1 (T k).2.1 (T k).2.2.1 ∈ gw ∧ Y.2.2.1 ci k = kd ∧ (T k).2.2.2 = fin ∧ parseFieldDescriptor (T k).2.2.1 = some ft
theorem ho_getI {a ci k idx N : Nat} {Cn : String} {T : u_T} {ty : Nat → FieldType} {ft : FieldType} {fin : Bool} (C : ho_I p s m args meth c own cc nL ret) (F : ho_F ci Cn T ty N) (hf : ho_f Y own ci T N idx k 0 ft fin) (hR : ho_R Y E A s H0 H locs S) (ha : a ∈ Y.1 ∧ Y.2.1 a = (1, ci)) (hdg : decode cc pc = .ok (.getfield idx, 3))
    (kk : W p l e R s m args below meth c H locs 0 0 Q (F0 m (pc + 3) ls (.int (S.1 a k) :: rest))) : W p l e R s m args below meth c H locs 0 0 Q (F0 m pc ls (.ref (E.2.1 a) :: rest)) :=
  ho_get C F hR ha hf.1 hf.2.1 hf.2.2.1 (by unfold ho_v; rw [if_pos hf.2.2.2.1]) hdg kk
theorem ho_getJ {a ci k idx N : Nat} {Cn : String} {T : u_T} {ty : Nat → FieldType} {ft : FieldType} {fin : Bool} (C : ho_I p s m args meth c own cc nL ret) (F : ho_F ci Cn T ty N) (hf : ho_f Y own ci T N idx k 1 ft fin) (hR : ho_R Y E A s H0 H locs S) (ha : a ∈ Y.1 ∧ Y.2.1 a = (1, ci)) (hdg : decode cc pc = .ok (.getfield idx, 3))
    (kk : W p l e R s m args below meth c H locs 0 0 Q (F0 m (pc + 3) ls (.long (S.2.1 a k) :: rest))) : W p l e R s m args below meth c H locs 0 0 Q (F0 m pc ls (.ref (E.2.1 a) :: rest)) :=
  ho_get C F hR ha hf.1 hf.2.1 hf.2.2.1 (by unfold ho_v; rw [if_neg (by rw [hf.2.2.2.1]; decide), if_pos hf.2.2.2.1]) hdg kk
theorem ho_getR {a ci k idx N a' : Nat} {Cn : String} {T : u_T} {ty : Nat → FieldType} {ft : FieldType} {fin : Bool} (C : ho_I p s m args meth c own cc nL ret) (F : ho_F ci Cn T ty N) (hf : ho_f Y own ci T N idx k 2 ft fin) (hR : ho_R Y E A s H0 H locs S) (ha : a ∈ Y.1 ∧ Y.2.1 a = (1, ci)) (hp : Y.2.2.2.1 a k = a') (hdg : decode cc pc = .ok (.getfield idx, 3))
    (kk : W p l e R s m args below meth c H locs 0 0 Q (F0 m (pc + 3) ls (.ref (E.2.1 a') :: rest))) : W p l e R s m args below meth c H locs 0 0 Q (F0 m pc ls (.ref (E.2.1 a) :: rest)) :=
  ho_get C F hR ha hf.1 hf.2.1 hf.2.2.1 (by unfold ho_v; rw [if_neg (by rw [hf.2.2.2.1]; decide), if_neg (by rw [hf.2.2.2.1]; decide), if_pos hf.2.2.2.1, hp]) hdg kk
theorem ho_getP {a ci k idx N : Nat} {Cn : String} {T : u_T} {ty : Nat → FieldType} {ft : FieldType} {fin : Bool} (C : ho_I p s m args meth c own cc nL ret) (F : ho_F ci Cn T ty N) (hf : ho_f Y own ci T N idx k 3 ft fin) (hR : ho_R Y E A s H0 H locs S) (ha : a ∈ Y.1 ∧ Y.2.1 a = (1, ci)) (hdg : decode cc pc = .ok (.getfield idx, 3))
    (kk : W p l e R s m args below meth c H locs 0 0 Q (F0 m (pc + 3) ls (.ref (E.2.1 (S.2.2 a k)) :: rest))) : W p l e R s m args below meth c H locs 0 0 Q (F0 m pc ls (.ref (E.2.1 a) :: rest)) :=
  ho_get C F hR ha hf.1 hf.2.1 hf.2.2.1 (by unfold ho_v; rw [if_neg (by rw [hf.2.2.2.1]; decide), if_neg (by rw [hf.2.2.2.1]; decide), if_neg (by rw [hf.2.2.2.1]; decide)]) hdg kk
theorem ho_vI {a ci k : Nat} {v : Int32} (hk : Y.2.2.1 ci k = 0) : ho_v Y E (ho_sI S a k v) a ci k = .int v ∧ ∀ j, j ≠ k → ho_v Y E (ho_sI S a k v) a ci j = ho_v Y E S a ci j := by
  have e : (ho_sI S a k v).1 a = upd (S.1 a) k v := if_pos rfl
  refine ⟨?_, fun j hj => ?_⟩
  · unfold ho_v
    rw [if_pos hk, e, pk_us]
  · unfold ho_v
    rw [e, pk_un hj]
    rfl
theorem ho_vJ {a ci k : Nat} {v : Int64} (hk : Y.2.2.1 ci k = 1) : ho_v Y E (ho_sJ S a k v) a ci k = .long v ∧ ∀ j, j ≠ k → ho_v Y E (ho_sJ S a k v) a ci j = ho_v Y E S a ci j := by
  have e : (ho_sJ S a k v).2.1 a = vp_updL (S.2.1 a) k v := if_pos rfl
  refine ⟨?_, fun j hj => ?_⟩
  · unfold ho_v
    rw [if_neg (by rw [hk]; decide), if_pos hk, e, pk_uLs]
  · unfold ho_v
    rw [e, pk_uLn hj]
    rfl
theorem ho_vP {a ci k : Nat} {v : Nat} (hk : Y.2.2.1 ci k = 3) : ho_v Y E (ho_sP S a k v) a ci k = .ref (E.2.1 v) ∧ ∀ j, j ≠ k → ho_v Y E (ho_sP S a k v) a ci j = ho_v Y E S a ci j := by
  have e : (ho_sP S a k v).2.2 a = va_up (S.2.2 a) k v := if_pos rfl
  refine ⟨?_, fun j hj => ?_⟩
  · unfold ho_v
    rw [if_neg (by rw [hk]; decide), if_neg (by rw [hk]; decide), if_neg (by rw [hk]; decide), e]
    unfold va_up
    rw [if_pos rfl]
  · have e2 : va_up (S.2.2 a) k v j = S.2.2 a j := if_neg hj
    unfold ho_v
    rw [e, e2]
    rfl
theorem ho_putI {a ci k idx N : Nat} {Cn : String} {T : u_T} {ty : Nat → FieldType} {v : Int32} (C : ho_I p s m args meth c own cc nL ret) (F : ho_F ci Cn T ty N) (hf : ho_f Y own ci T N idx k 0 .int false) (hR : ho_R Y E A s H0 H locs S) (ha : a ∈ Y.1 ∧ Y.2.1 a = (1, ci)) (hdg : decode cc pc = .ok (.putfield idx, 3))
    (kk : ∀ (H1 : Heap) (locs1 : List Loc), ho_R Y E A s H0 H1 locs1 (ho_sI S a k v) → W p l e R s m args below meth c H1 locs1 0 0 Q (F0 m (pc + 3) ls rest)) : W p l e R s m args below meth c H locs 0 0 Q (F0 m pc ls (.int v :: .ref (E.2.1 a) :: rest)) :=
  ho_put C F hR ha hf.1 hf.2.1 hf.2.2.1 hf.2.2.2.2.1 hf.2.2.2.2.2 (vp_nar_int v) rfl (ho_vI hf.2.2.2.1).1 (ho_vI hf.2.2.2.1).2 ho_cI hdg kk
theorem ho_putZ {a ci k idx N : Nat} {Cn : String} {T : u_T} {ty : Nat → FieldType} {v : Int32} (C : ho_I p s m args meth c own cc nL ret) (F : ho_F ci Cn T ty N) (hf : ho_f Y own ci T N idx k 0 .boolean false) (hR : ho_R Y E A s H0 H locs S) (ha : a ∈ Y.1 ∧ Y.2.1 a = (1, ci)) (hz : v = 0 ∨ v = 1) (hdg : decode cc pc = .ok (.putfield idx, 3))
    (kk : ∀ (H1 : Heap) (locs1 : List Loc), ho_R Y E A s H0 H1 locs1 (ho_sI S a k v) → W p l e R s m args below meth c H1 locs1 0 0 Q (F0 m (pc + 3) ls rest)) : W p l e R s m args below meth c H locs 0 0 Q (F0 m pc ls (.int v :: .ref (E.2.1 a) :: rest)) :=
  ho_put C F hR ha hf.1 hf.2.1 hf.2.2.1 hf.2.2.2.2.1 hf.2.2.2.2.2 (by rcases hz with rfl | rfl <;> decide) (by rcases hz with rfl | rfl <;> decide) (ho_vI hf.2.2.2.1).1 (ho_vI hf.2.2.2.1).2 ho_cI hdg kk
theorem ho_putJ {a ci k idx N : Nat} {Cn : String} {T : u_T} {ty : Nat → FieldType} {v : Int64} (C : ho_I p s m args meth c own cc nL ret) (F : ho_F ci Cn T ty N) (hf : ho_f Y own ci T N idx k 1 .long false) (hR : ho_R Y E A s H0 H locs S) (ha : a ∈ Y.1 ∧ Y.2.1 a = (1, ci)) (hdg : decode cc pc = .ok (.putfield idx, 3))
    (kk : ∀ (H1 : Heap) (locs1 : List Loc), ho_R Y E A s H0 H1 locs1 (ho_sJ S a k v) → W p l e R s m args below meth c H1 locs1 0 0 Q (F0 m (pc + 3) ls rest)) : W p l e R s m args below meth c H locs 0 0 Q (F0 m pc ls (.long v :: .ref (E.2.1 a) :: rest)) :=
  ho_put C F hR ha hf.1 hf.2.1 hf.2.2.1 hf.2.2.2.2.1 hf.2.2.2.2.2 rfl rfl (ho_vJ hf.2.2.2.1).1 (ho_vJ hf.2.2.2.1).2 ho_cJ hdg kk
theorem ho_putP {a ci k idx N : Nat} {Cn D : String} {T : u_T} {ty : Nat → FieldType} {v : Nat} (C : ho_I p s m args meth c own cc nL ret) (F : ho_F ci Cn T ty N) (hf : ho_f Y own ci T N idx k 3 (.object D) false) (hR : ho_R Y E A s H0 H locs S) (ha : a ∈ Y.1 ∧ Y.2.1 a = (1, ci)) (hdg : decode cc pc = .ok (.putfield idx, 3))
    (kk : ∀ (H1 : Heap) (locs1 : List Loc), ho_R Y E A s H0 H1 locs1 (ho_sP S a k v) → W p l e R s m args below meth c H1 locs1 0 0 Q (F0 m (pc + 3) ls rest)) : W p l e R s m args below meth c H locs 0 0 Q (F0 m pc ls (.ref (E.2.1 v) :: .ref (E.2.1 a) :: rest)) :=
  ho_put C F hR ha hf.1 hf.2.1 hf.2.2.1 hf.2.2.2.2.1 hf.2.2.2.2.2 rfl rfl (ho_vP hf.2.2.2.1).1 (ho_vP hf.2.2.2.1).2 ho_cP hdg kk
-- arrays
theorem ho_cA {a n t : Nat} (hs : Y.2.1 a = (t, n)) : (t = 2 → ho_c Y E S a = .inl (E.2.2 0, n, .inl (S.1 a))) ∧ (t = 3 → ho_c Y E S a = .inl (E.2.2 1, n, .inl (S.1 a))) ∧ (t = 4 → ho_c Y E S a = .inl (E.2.2 2, n, .inl (S.1 a))) ∧ (t = 5 → ho_c Y E S a = .inl (E.2.2 3, n, .inr (.inl (S.2.1 a)))) ∧ (t = 6 → ho_c Y E S a = .inl (E.2.2 4, n, .inl (S.1 a)))
    ∧ (t = 7 → ho_c Y E S a = .inl (E.2.2 5, n, .inr (.inr (.inr (.inr (fun i => some (E.2.1 (Y.2.2.2.2.1 a i)))))))) ∧ (t = 8 → ho_c Y E S a = .inl (E.2.2 6, n, .inr (.inr (.inr (.inr (fun i => some (E.2.1 (Y.2.2.2.2.1 a i)))))))) := by
  refine ⟨?_, ?_, ?_, ?_, ?_, ?_, ?_⟩ <;> (intro ht; subst ht; unfold ho_c; rw [hs]; rfl)
theorem ho_uI {a k : Nat} {v : Int32} : (ho_sI S a k v).1 a = upd (S.1 a) k v := if_pos rfl
theorem ho_uJ {a k : Nat} {v : Int64} : (ho_sJ S a k v).2.1 a = vp_updL (S.2.1 a) k v := if_pos rfl
theorem ho_ild {a n : Nat} {i : Int32} (C : ho_I p s m args meth c own cc nL ret) (hR : ho_R Y E A s H0 H locs S) (ha : a ∈ Y.1 ∧ Y.2.1 a = (4, n)) (hin : vp_in i n) (hdg : decode cc pc = .ok (.iaload, 1))
    (kk : W p l e R s m args below meth c H locs 0 0 Q (F0 m (pc + 1) ls (.int (S.1 a i.toNatClampNeg) :: rest))) : W p l e R s m args below meth c H locs 0 0 Q (F0 m pc ls (.int i :: .ref (E.2.1 a) :: rest)) := by
  obtain ⟨q, -, hq⟩ := ho_at ha.1
  have he := hq E S
  rw [(ho_cA ha.2).2.2.1 rfl] at he
  exact va_iald C.1 C.2.1 hR.1 hR.2.1 q 2 he rfl hin hdg kk
theorem ho_cld {a n : Nat} {i : Int32} (C : ho_I p s m args meth c own cc nL ret) (hR : ho_R Y E A s H0 H locs S) (ha : a ∈ Y.1 ∧ Y.2.1 a = (3, n)) (hin : vp_in i n) (hdg : decode cc pc = .ok (.caload, 1))
    (kk : W p l e R s m args below meth c H locs 0 0 Q (F0 m (pc + 1) ls (.int (S.1 a i.toNatClampNeg) :: rest))) : W p l e R s m args below meth c H locs 0 0 Q (F0 m pc ls (.int i :: .ref (E.2.1 a) :: rest)) := by
  obtain ⟨q, -, hq⟩ := ho_at ha.1
  have he := hq E S
  rw [(ho_cA ha.2).2.1 rfl] at he
  exact va_cald C.1 C.2.1 hR.1 hR.2.1 q 1 he rfl hin hdg kk
theorem ho_bld {a n : Nat} {i : Int32} (C : ho_I p s m args meth c own cc nL ret) (hR : ho_R Y E A s H0 H locs S) (ha : a ∈ Y.1 ∧ Y.2.1 a = (2, n)) (hin : vp_in i n) (hdg : decode cc pc = .ok (.baload, 1))
    (kk : W p l e R s m args below meth c H locs 0 0 Q (F0 m (pc + 1) ls (.int (S.1 a i.toNatClampNeg) :: rest))) : W p l e R s m args below meth c H locs 0 0 Q (F0 m pc ls (.int i :: .ref (E.2.1 a) :: rest)) := by
  obtain ⟨q, -, hq⟩ := ho_at ha.1
  have he := hq E S
  rw [(ho_cA ha.2).1 rfl] at he
  exact va_bald C.1 C.2.1 hR.1 hR.2.1 q 0 he rfl hin hdg kk
theorem ho_zld {a n : Nat} {i : Int32} (C : ho_I p s m args meth c own cc nL ret) (hR : ho_R Y E A s H0 H locs S) (ha : a ∈ Y.1 ∧ Y.2.1 a = (6, n)) (hin : vp_in i n) (hdg : decode cc pc = .ok (.baload, 1))
    (kk : W p l e R s m args below meth c H locs 0 0 Q (F0 m (pc + 1) ls (.int (S.1 a i.toNatClampNeg) :: rest))) : W p l e R s m args below meth c H locs 0 0 Q (F0 m pc ls (.int i :: .ref (E.2.1 a) :: rest)) := by
  obtain ⟨q, -, hq⟩ := ho_at ha.1
  have he := hq E S
  rw [(ho_cA ha.2).2.2.2.2.1 rfl] at he
  exact va_zald C.1 C.2.1 hR.1 hR.2.1 q 4 he rfl hin hdg kk
theorem ho_lld {a n : Nat} {i : Int32} (C : ho_I p s m args meth c own cc nL ret) (hR : ho_R Y E A s H0 H locs S) (ha : a ∈ Y.1 ∧ Y.2.1 a = (5, n)) (hin : vp_in i n) (hdg : decode cc pc = .ok (.laload, 1))
    (kk : W p l e R s m args below meth c H locs 0 0 Q (F0 m (pc + 1) ls (.long (S.2.1 a i.toNatClampNeg) :: rest))) : W p l e R s m args below meth c H locs 0 0 Q (F0 m pc ls (.int i :: .ref (E.2.1 a) :: rest)) := by
  obtain ⟨q, -, hq⟩ := ho_at ha.1
  have he := hq E S
  rw [(ho_cA ha.2).2.2.2.1 rfl] at he
  exact va_lald C.1 C.2.1 hR.1 hR.2.1 q 3 he rfl hin hdg kk
theorem ho_ist {a n : Nat} {i x : Int32} (C : ho_I p s m args meth c own cc nL ret) (hR : ho_R Y E A s H0 H locs S) (ha : a ∈ Y.1 ∧ Y.2.1 a = (4, n)) (hin : vp_in i n) (hdg : decode cc pc = .ok (.iastore, 1))
    (kk : ∀ (H1 : Heap) (locs1 : List Loc), ho_R Y E A s H0 H1 locs1 (ho_sI S a i.toNatClampNeg x) → W p l e R s m args below meth c H1 locs1 0 0 Q (F0 m (pc + 1) ls rest)) : W p l e R s m args below meth c H locs 0 0 Q (F0 m pc ls (.int x :: .int i :: .ref (E.2.1 a) :: rest)) := by
  obtain ⟨q, hq0, hq⟩ := ho_at ha.1
  obtain ⟨hK, hP, hD, hS⟩ := hR
  have he := hq E S
  rw [(ho_cA ha.2).2.2.1 rfl] at he
  refine va_iast C.1 C.2.1 hK hP hD hS q 2 he rfl hin hdg (fun H1 locs1 hP hD2 hS => ?_)
  rw [← ho_uI, ← (ho_cA (E := E) (S := ho_sI S a i.toNatClampNeg x) ha.2).2.2.1 rfl, ho_set hD hq0 ho_cI] at hP hD2
  exact kk H1 locs1 ⟨hK, hP, hD2, hS⟩
theorem ho_bst {a n : Nat} {i x : Int32} (C : ho_I p s m args meth c own cc nL ret) (hR : ho_R Y E A s H0 H locs S) (ha : a ∈ Y.1 ∧ Y.2.1 a = (2, n)) (hin : vp_in i n) (hdg : decode cc pc = .ok (.bastore, 1))
    (kk : ∀ (H1 : Heap) (locs1 : List Loc), ho_R Y E A s H0 H1 locs1 (ho_sI S a i.toNatClampNeg (vp_nar .byte x)) → W p l e R s m args below meth c H1 locs1 0 0 Q (F0 m (pc + 1) ls rest)) : W p l e R s m args below meth c H locs 0 0 Q (F0 m pc ls (.int x :: .int i :: .ref (E.2.1 a) :: rest)) := by
  obtain ⟨q, hq0, hq⟩ := ho_at ha.1
  obtain ⟨hK, hP, hD, hS⟩ := hR
  have he := hq E S
  rw [(ho_cA ha.2).1 rfl] at he
  refine va_bast C.1 C.2.1 hK hP hD hS q 0 he rfl hin hdg (fun H1 locs1 hP hD2 hS => ?_)
  rw [← ho_uI, ← (ho_cA (E := E) (S := ho_sI S a i.toNatClampNeg (vp_nar .byte x)) ha.2).1 rfl, ho_set hD hq0 ho_cI] at hP hD2
  exact kk H1 locs1 ⟨hK, hP, hD2, hS⟩
theorem ho_zst {a n : Nat} {i x : Int32} (C : ho_I p s m args meth c own cc nL ret) (hR : ho_R Y E A s H0 H locs S) (ha : a ∈ Y.1 ∧ Y.2.1 a = (6, n)) (hin : vp_in i n) (hdg : decode cc pc = .ok (.bastore, 1))
    (kk : ∀ (H1 : Heap) (locs1 : List Loc), ho_R Y E A s H0 H1 locs1 (ho_sI S a i.toNatClampNeg (vp_nar .boolean x)) → W p l e R s m args below meth c H1 locs1 0 0 Q (F0 m (pc + 1) ls rest)) : W p l e R s m args below meth c H locs 0 0 Q (F0 m pc ls (.int x :: .int i :: .ref (E.2.1 a) :: rest)) := by
  obtain ⟨q, hq0, hq⟩ := ho_at ha.1
  obtain ⟨hK, hP, hD, hS⟩ := hR
  have he := hq E S
  rw [(ho_cA ha.2).2.2.2.2.1 rfl] at he
  refine va_zast C.1 C.2.1 hK hP hD hS q 4 he rfl hin hdg (fun H1 locs1 hP hD2 hS => ?_)
  rw [← ho_uI, ← (ho_cA (E := E) (S := ho_sI S a i.toNatClampNeg (vp_nar .boolean x)) ha.2).2.2.2.2.1 rfl, ho_set hD hq0 ho_cI] at hP hD2
  exact kk H1 locs1 ⟨hK, hP, hD2, hS⟩
theorem ho_lst {a n : Nat} {i : Int32} {x : Int64} (C : ho_I p s m args meth c own cc nL ret) (hR : ho_R Y E A s H0 H locs S) (ha : a ∈ Y.1 ∧ Y.2.1 a = (5, n)) (hin : vp_in i n) (hdg : decode cc pc = .ok (.lastore, 1))
    (kk : ∀ (H1 : Heap) (locs1 : List Loc), ho_R Y E A s H0 H1 locs1 (ho_sJ S a i.toNatClampNeg x) → W p l e R s m args below meth c H1 locs1 0 0 Q (F0 m (pc + 1) ls rest)) : W p l e R s m args below meth c H locs 0 0 Q (F0 m pc ls (.long x :: .int i :: .ref (E.2.1 a) :: rest)) := by
  obtain ⟨q, hq0, hq⟩ := ho_at ha.1
  obtain ⟨hK, hP, hD, hS⟩ := hR
  have he := hq E S
  rw [(ho_cA ha.2).2.2.2.1 rfl] at he
  refine va_last C.1 C.2.1 hK hP hD hS q 3 he rfl hin hdg (fun H1 locs1 hP hD2 hS => ?_)
  rw [← ho_uJ, ← (ho_cA (E := E) (S := ho_sJ S a i.toNatClampNeg x) ha.2).2.2.2.1 rfl, ho_set hD hq0 ho_cJ] at hP hD2
  exact kk H1 locs1 ⟨hK, hP, hD2, hS⟩
theorem ho_alen {a n t : Nat} (ht : 2 ≤ t ∧ t ≤ 6) (C : ho_I p s m args meth c own cc nL ret) (hR : ho_R Y E A s H0 H locs S) (ha : a ∈ Y.1 ∧ Y.2.1 a = (t, n)) (hdg : decode cc pc = .ok (.arraylength, 1))
    (kk : W p l e R s m args below meth c H locs 0 0 Q (F0 m (pc + 1) ls (.int (Int32.ofNat n) :: rest))) : W p l e R s m args below meth c H locs 0 0 Q (F0 m pc ls (.ref (E.2.1 a) :: rest)) := by
  obtain ⟨q, -, hq⟩ := ho_at ha.1
  have he := hq E S
  have h5 : t = 2 ∨ t = 3 ∨ t = 4 ∨ t = 5 ∨ t = 6 := by omega
  rcases h5 with h | h | h | h | h
  · rw [(ho_cA ha.2).1 h] at he
    exact va_alen C.1 C.2.1 hR.1 hR.2.1 q 0 he rfl rfl hdg kk
  · rw [(ho_cA ha.2).2.1 h] at he
    exact va_alen C.1 C.2.1 hR.1 hR.2.1 q 1 he rfl rfl hdg kk
  · rw [(ho_cA ha.2).2.2.1 h] at he
    exact va_alen C.1 C.2.1 hR.1 hR.2.1 q 2 he rfl rfl hdg kk
  · rw [(ho_cA ha.2).2.2.2.1 h] at he
    exact va_alen C.1 C.2.1 hR.1 hR.2.1 q 3 he rfl rfl hdg kk
  · rw [(ho_cA ha.2).2.2.2.2.1 h] at he
    exact va_alen C.1 C.2.1 hR.1 hR.2.1 q 4 he rfl rfl hdg kk
end HO2
