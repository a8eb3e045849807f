/-! rows for pointers that change, rows of rows, copies -/
def ho_sA (S : Hp) (a : Nat) (f : Nat → Int32) : Hp := (fun b => if b = a then f else S.1 b, S.2)
/-- a pointer that changes, read: it points to an object of that class -/
def ldP {β : Type} (Y : Sy) (S : Hp) (a k c : Nat) (f : Nat → Option β) : Option β := if S.2.2 a k ∈ Y.1 ∧ Y.2.1 (S.2.2 a k) = (1, c) then f (S.2.2 a k) else none
/-- a place of a row of rows or objects, read -/
def ldR {β : Type} (Y : Sy) (a n : Nat) (i : Int32) (t c : Nat) (f : Nat → Option β) : Option β := if i < 0 ∨ n ≤ i.toNatClampNeg then none else if Y.2.2.2.2.1 a i.toNatClampNeg ∈ Y.1 ∧ Y.2.1 (Y.2.2.2.2.1 a i.toNatClampNeg) = (t, c) then f (Y.2.2.2.2.1 a i.toNatClampNeg) else none
/-- System.arraycopy between rows of numbers -/
def cpI {β : Type} (S : Hp) (a0 n0 : Nat) (sp : Int32) (a1 n1 : Nat) (dp n : Int32) (f : Hp → Option β) : Option β :=
  if sp < 0 ∨ dp < 0 ∨ n < 0 ∨ n0 < sp.toNatClampNeg + n.toNatClampNeg ∨ n1 < dp.toNatClampNeg + n.toNatClampNeg then none else f (ho_sA S a1 (va_cpy (S.1 a0) (S.1 a1) sp.toNatClampNeg dp.toNatClampNeg n.toNatClampNeg))
theorem ldP_ok {β : Type} {Y : Sy} {S : Hp} {a k c : Nat} {f : Nat → Option β} {r : β} (h : ldP Y S a k c f = some r) : ∃ p, p = S.2.2 a k ∧ (p ∈ Y.1 ∧ Y.2.1 p = (1, c)) ∧ f p = some r := by
  unfold ldP at h
  by_cases hc : S.2.2 a k ∈ Y.1 ∧ Y.2.1 (S.2.2 a k) = (1, c)
  · rw [if_pos hc] at h; exact ⟨_, rfl, hc, h⟩
  · rw [if_neg hc] at h; cases h
theorem ldR_ok {β : Type} {Y : Sy} {a n t c : Nat} {i : Int32} {f : Nat → Option β} {r : β} (h : ldR Y a n i t c f = some r) : ∃ p, p = Y.2.2.2.2.1 a i.toNatClampNeg ∧ vp_in i n ∧ (p ∈ Y.1 ∧ Y.2.1 p = (t, c)) ∧ f p = some r := by
  unfold ldR at h
  by_cases hc : i < 0 ∨ n ≤ i.toNatClampNeg
  · rw [if_pos hc] at h; cases h
  · rw [if_neg hc] at h
    by_cases hd : Y.2.2.2.2.1 a i.toNatClampNeg ∈ Y.1 ∧ Y.2.1 (Y.2.2.2.2.1 a i.toNatClampNeg) = (t, c)
    · rw [if_pos hd] at h; exact ⟨_, rfl, hc, hd, h⟩
    · rw [if_neg hd] at h; cases h
theorem cpI_ok {β : Type} {S : Hp} {a0 n0 a1 n1 : Nat} {sp dp n : Int32} {f : Hp → Option β} {r : β} (h : cpI S a0 n0 sp a1 n1 dp n f = some r) : ∃ S', S' = ho_sA S a1 (va_cpy (S.1 a0) (S.1 a1) sp.toNatClampNeg dp.toNatClampNeg n.toNatClampNeg) ∧ (¬ sp < 0 ∧ ¬ dp < 0 ∧ ¬ n < 0 ∧ sp.toNatClampNeg + n.toNatClampNeg ≤ n0 ∧ dp.toNatClampNeg + n.toNatClampNeg ≤ n1) ∧ f S' = some r := by
  unfold cpI at h
  by_cases hc : sp < 0 ∨ dp < 0 ∨ n < 0 ∨ n0 < sp.toNatClampNeg + n.toNatClampNeg ∨ n1 < dp.toNatClampNeg + n.toNatClampNeg
  · rw [if_pos hc] at h; cases h
  · rw [if_neg hc] at h
    exact ⟨_, rfl, ⟨fun q => hc (Or.inl q), fun q => hc (Or.inr (Or.inl q)), fun q => hc (Or.inr (Or.inr (Or.inl q))), Nat.not_lt.mp fun q => hc (Or.inr (Or.inr (Or.inr (Or.inl q)))), Nat.not_lt.mp fun q => hc (Or.inr (Or.inr (Or.inr (Or.inr q))))⟩, h⟩
section HO7
variable {p : Program} {l : Launch} {e : Env} {R : Room} {s : State} {m : MethodId} {args : Array Value} {below : List Frame} {meth : Method} {c : Code} {H H0 : Heap} {locs : List Loc} {Q : State → Prop}
variable {Y : Sy} {E : Ev} {A : Nat → Prop} {S S' : Hp} {own : String} {cc : ByteArray} {nL : Nat} {ret : Option FieldType} {pc : Nat} {ls : Array Slot} {rest : List Value}
variable {a ci k idx N n q0 : Nat} {Cn D : String} {T : u_T} {ty : Nat → FieldType} {v i : Int32} {w : Int64}
theorem hr_getP (C : ho_I p s m args meth c own cc nL ret) (F : ho_F ci Cn T ty N) {ft : FieldType} {fin : Bool} (hf : ho_f Y own ci T N idx k 3 ft fin) (hR : ho_R Y E A s H0 H locs S) (ha : a ∈ Y.1 ∧ Y.2.1 a = (1, ci)) (e1 : q0 = S.2.2 a k) (hdg : decode cc pc = .ok (.getfield idx, 3))
    (kk : W p l e R s m args below meth c H locs 0 0 Q (F0 m (pc + 3) ls (.ref (E.2.1 q0) :: rest))) : W p l e R s m args below meth c H locs 0 0 Q (F0 m pc ls (.ref (E.2.1 a) :: rest)) := by
  subst e1; exact ho_getP C F hf hR ha hdg kk
theorem hr_putP (C : ho_I p s m args meth c own cc nL ret) (F : ho_F ci Cn T ty N) (hf : ho_f Y own ci T N idx k 3 (.object D) false) (hR : ho_R Y E A s H0 H locs S) (ha : a ∈ Y.1 ∧ Y.2.1 a = (1, ci)) (e1 : S' = ho_sP S a k q0) (hdg : decode cc pc = .ok (.putfield idx, 3))
    (kk : ∀ (H1 : Heap) (locs1 : List Loc), ho_R Y E A s H0 H1 locs1 S' → W p l e R s m args below meth c H1 locs1 0 0 Q (F0 m (pc + 3) ls rest)) : W p l e R s m args below meth c H locs 0 0 Q (F0 m pc ls (.ref (E.2.1 q0) :: .ref (E.2.1 a) :: rest)) := by
  subst e1; exact ho_putP C F hf hR ha hdg kk
theorem hr_old (C : ho_I p s m args meth c own cc nL ret) (hR : ho_R Y E A s H0 H locs S) (ha : a ∈ Y.1 ∧ Y.2.1 a = (7, n)) (hin : vp_in i n) (e1 : q0 = Y.2.2.2.2.1 a i.toNatClampNeg) (hdg : decode cc pc = .ok (.aaload, 1))
    (kk : W p l e R s m args below meth c H locs 0 0 Q (F0 m (pc + 1) ls (.ref (E.2.1 q0) :: rest))) : W p l e R s m args below meth c H locs 0 0 Q (F0 m pc ls (.int i :: .ref (E.2.1 a) :: rest)) := by
  subst e1
  obtain ⟨q, -, hq⟩ := ho_at ha.1
  have he := hq E S
  rw [(ho_cA ha.2).2.2.2.2.2.1 rfl] at he
  exact va_aldq C.1 C.2.1 hR.1 hR.2.1 q 5 he rfl hin hdg kk
theorem hr_rld (C : ho_I p s m args meth c own cc nL ret) (hR : ho_R Y E A s H0 H locs S) (ha : a ∈ Y.1 ∧ Y.2.1 a = (8, n)) (hin : vp_in i n) (e1 : q0 = Y.2.2.2.2.1 a i.toNatClampNeg) (hdg : decode cc pc = .ok (.aaload, 1))
    (kk : W p l e R s m args below meth c H locs 0 0 Q (F0 m (pc + 1) ls (.ref (E.2.1 q0) :: rest))) : W p l e R s m args below meth c H locs 0 0 Q (F0 m pc ls (.int i :: .ref (E.2.1 a) :: rest)) := by
  subst e1
  obtain ⟨q, -, hq⟩ := ho_at ha.1
  have he := hq E S
  rw [(ho_cA ha.2).2.2.2.2.2.2 rfl] at he
  have hlt : i.toNatClampNeg < n := Nat.not_le.mp fun q => hin (Or.inr q)
  exact W.aald (v := .ref (E.2.1 (Y.2.2.2.2.1 a i.toNatClampNeg))) (ty := .array .int) C.1 C.2.1 (hR.2.1 q _ he) ((hR.1.2 6 (E.2.2 6, .array .int) rfl).1 n (fun j => va_rf (some (E.2.1 (Y.2.2.2.2.1 a j))))) rfl (fun q => by cases q) (by show ¬ (i < 0 ∨ (arrV _ _ _).slots.size ≤ _); rw [arrV_size]; exact hin) (by show (arrV _ _ _).slots[_]? = _; rw [arrV_read _ _ hlt]; rfl) rfl rfl hdg kk
theorem ho_cS {f : Nat → Int32} : ∀ b, b ≠ a → ho_c Y E (ho_sA S a f) b = ho_c Y E S b := by
  intro b hb
  have e : (ho_sA S a f).1 b = S.1 b := if_neg hb
  have e2 : ho_v Y E (ho_sA S a f) b = ho_v Y E S b := by
    funext c j
    unfold ho_v
    rw [e]
    rfl
  unfold ho_c
  rw [e, e2]
  rfl
theorem ho_uS {f : Nat → Int32} : (ho_sA S a f).1 a = f := if_pos rfl
/-- the words of System.arraycopy -/
abbrev ho_ac (own : String) (idx : Nat) : Prop := Cond.methodLink own idx arraycopyName ∈ gw ∧ Cond.native arraycopyName ∈ gw ∧ Cond.static arraycopyName ∈ gw ∧ Cond.initialized "java/lang/System" ∈ gw
theorem hr_cpy {a0 a1 n0 n1 d : Nat} {sp dp nn : Int32} (C : ho_I p s m args meth c own cc nL ret) (hw : ho_ac own idx) (hR : ho_R Y E A s H0 H locs S) (ha0 : a0 ∈ Y.1 ∧ Y.2.1 a0 = (4, n0)) (ha1 : a1 ∈ Y.1 ∧ Y.2.1 a1 = (4, n1)) (hh : ¬ sp < 0 ∧ ¬ dp < 0 ∧ ¬ nn < 0 ∧ sp.toNatClampNeg + nn.toNatClampNeg ≤ n0 ∧ dp.toNatClampNeg + nn.toNatClampNeg ≤ n1) (e1 : S' = ho_sA S a1 (va_cpy (S.1 a0) (S.1 a1) sp.toNatClampNeg dp.toNatClampNeg nn.toNatClampNeg))
    (hsz : ls.size = nL) (hst : (rest.map fun v => v.category).sum ≤ 8) (hd : 1 ≤ d) (hdg : decode cc pc = .ok (.invokestatic idx, 3))
    (kk : ∀ (H1 : Heap) (locs1 : List Loc), ho_R Y E A s H0 H1 locs1 S' → W p l e (ho_rm d) s m args below meth c H1 locs1 0 0 Q (F0 m (pc + 3) ls rest)) : W p l e (ho_rm d) s m args below meth c H locs 0 0 Q (F0 m pc ls (.int nn :: .int dp :: .ref (E.2.1 a1) :: .int sp :: .ref (E.2.1 a0) :: rest)) := by
  subst e1
  obtain ⟨hx, hb, hml, -, hown, hts, -⟩ := C
  obtain ⟨w1, w2, w3, w4⟩ := hw
  obtain ⟨q, -, hq⟩ := ho_at ha0.1
  have he := hq E S
  rw [(ho_cA ha0.2).2.2.1 rfl] at he
  obtain ⟨q1, hq10, hq1⟩ := ho_at ha1.1
  have he1 := hq1 E S
  rw [(ho_cA ha1.2).2.2.1 rfl] at he1
  obtain ⟨hK, hP, hD, hS⟩ := hR
  refine va_copyi (R := ho_rm d) hx hb (by rw [hml]; exact hsz.symm) hown (hts _ w1) (hts _ w2) (hts _ w3) (hts _ w4) hK hP hD hS q q1 2 2 he he1 rfl rfl rfl hh.1 hh.2.1 hh.2.2.1 hh.2.2.2.1 hh.2.2.2.2 (fun _ _ => rfl) hd ?_ hdg (fun H1 locs1 hP hD2 hS => ?_)
  · show (rest.map fun v => v.category).sum + (nativeFrameWords "java/lang/System" "arraycopy" 5 + 11) ≤ 64 * d
    have h9 : nativeFrameWords "java/lang/System" "arraycopy" 5 ≤ 40 := by decide
    omega
  · rw [← ho_uS (S := S) (a := a1) (f := va_cpy (S.1 a0) (S.1 a1) sp.toNatClampNeg dp.toNatClampNeg nn.toNatClampNeg), ← (ho_cA (E := E) (S := ho_sA S a1 (va_cpy (S.1 a0) (S.1 a1) sp.toNatClampNeg dp.toNatClampNeg nn.toNatClampNeg)) ha1.2).2.2.1 rfl, ho_set hD hq10 ho_cS] at hP hD2
    exact kk H1 locs1 ⟨hK, hP, hD2, hS⟩
end HO7
/-- as ho_in, for a method of a class some of whose methods the machine has of its own, but not this one -/
theorem ho_inF {l : Launch} {Y : Sy} {E : Ev} {y : MethodName} {cc : ByteArray} {mL : Nat} {ret : Option FieldType} {d : Nat} {av : List Value} {S : Hp} {x : Option Value × Hp} (hy : plainFor y = true) (ha : (lg_sl av).length ≤ mL)
    (body : ∀ (p : Program) (e : Env) (s : State) (m : MethodId) (args : Array Value) (below : List Frame) (meth : Method) (c : Code), ho_I p s m args meth c y.cls cc mL ret → ho_R Y E (va_A (ho_w Y E S) s.heap.size) s s.heap s.heap [] S → ∀ ls : Array Slot, lv_has ls mL (lv_args 0 av) → W p l e (ho_rm d) s m args below meth c s.heap [] 0 0 (ho_Z Y E S below args s x) (F0 m 0 ls [])) : ho_M l Y E y cc mL ret d av S x := by
  intro sz
  refine MetFree.of_bodySF (code := cc) (maxLocals := mL) (ret := ret) hy ?_ ?_
  · intro args s m h hn
    obtain ⟨meth, c, h1, h2, h3, h4, h5, h6, -, -⟩ := Cond.code_spec hn (atoms_spec (ws := ho_ws y cc mL ret) h _ List.mem_cons_self)
    exact ⟨meth, c, h1, h2, h3, h4, h5, h6⟩
  · intro p e s m args below meth c s₁ B hml hv _
    have hh0 : s₁.heap = s.heap := by rw [B.state]; rfl
    obtain ⟨rfl, hsz, hP, hK, hD⟩ := hv
    subst hsz
    have hts := atoms_spec (ws := ho_ws y cc mL ret) B.pre
    have hl := lv_entry av (n := mL) ha
    have K := body p e s m _ below meth c ⟨B.exec, B.bytes, hml, B.returns, findClass_of_methodNamed B.named, fun w hw => hts w (List.mem_cons_of_mem _ hw), B.notSynchronized⟩ ⟨hK, hP, hD.self, va_S.rf⟩ _ hl
    rw [← lg_entry_eq] at K
    obtain ⟨t, a1, o, b1, b2, b3⟩ := K s₁ hh0 (Stand.of_body B)
    exact ⟨t, o, a1, b1, b2, ⟨b3.1, b3.2⟩⟩
theorem plF_J9_min_7cf53 : plainFor yJ9_min_7cf53 = true := by decide +kernel
theorem plF_J9_max_7cf53 : plainFor yJ9_max_7cf53 = true := by decide +kernel
theorem plF_J9_min_f86c9 : plainFor yJ9_min_f86c9 = true := by decide +kernel
theorem plF_J9_max_f86c9 : plainFor yJ9_max_f86c9 = true := by decide +kernel
theorem plF_J9_floorDiv_f86c9 : plainFor yJ9_floorDiv_f86c9 = true := by decide +kernel
-- a word of a part of the tables
theorem gt_1 {w : Cond} {i : Nat} (h : tables_1_1[i]? = some w) (hg : goodWord w = true) : w ∈ gw := List.mem_filter.mpr ⟨List.mem_append_right _ (List.mem_append_left _ (List.mem_of_getElem? h)), hg⟩
theorem gt_2 {w : Cond} {i : Nat} (h : tables_1_2[i]? = some w) (hg : goodWord w = true) : w ∈ gw := List.mem_filter.mpr ⟨List.mem_append_right _ (List.mem_append_right _ (List.mem_append_left _ (List.mem_of_getElem? h))), hg⟩
theorem gt_3 {w : Cond} {i : Nat} (h : tables_1_3[i]? = some w) (hg : goodWord w = true) : w ∈ gw := List.mem_filter.mpr ⟨List.mem_append_right _ (List.mem_append_right _ (List.mem_append_right _ (List.mem_append_left _ (List.mem_of_getElem? h)))), hg⟩
theorem gt_4 {w : Cond} {i : Nat} (h : tables_1_4[i]? = some w) (hg : goodWord w = true) : w ∈ gw := List.mem_filter.mpr ⟨List.mem_append_right _ (List.mem_append_right _ (List.mem_append_right _ (List.mem_append_right _ (List.mem_append_left _ (List.mem_of_getElem? h))))), hg⟩
theorem gt_5 {w : Cond} {i : Nat} (h : tables_1_5[i]? = some w) (hg : goodWord w = true) : w ∈ gw := List.mem_filter.mpr ⟨List.mem_append_right _ (List.mem_append_right _ (List.mem_append_right _ (List.mem_append_right _ (List.mem_append_right _ (List.mem_append_left _ (List.mem_of_getElem? h)))))), hg⟩
theorem gt_6 {w : Cond} {i : Nat} (h : tables_1_6[i]? = some w) (hg : goodWord w = true) : w ∈ gw := List.mem_filter.mpr ⟨List.mem_append_right _ (List.mem_append_right _ (List.mem_append_right _ (List.mem_append_right _ (List.mem_append_right _ (List.mem_append_right _ (List.mem_append_left _ (List.mem_of_getElem? h))))))), hg⟩
theorem gt_7 {w : Cond} {i : Nat} (h : tables_1_7[i]? = some w) (hg : goodWord w = true) : w ∈ gw := List.mem_filter.mpr ⟨List.mem_append_right _ (List.mem_append_right _ (List.mem_append_right _ (List.mem_append_right _ (List.mem_append_right _ (List.mem_append_right _ (List.mem_append_right _ (List.mem_append_left _ (List.mem_of_getElem? h)))))))), hg⟩
theorem gt_8 {w : Cond} {i : Nat} (h : tables_1_8[i]? = some w) (hg : goodWord w = true) : w ∈ gw := List.mem_filter.mpr ⟨List.mem_append_right _ (List.mem_append_right _ (List.mem_append_right _ (List.mem_append_right _ (List.mem_append_right _ (List.mem_append_right _ (List.mem_append_right _ (List.mem_append_right _ (List.mem_append_left _ (List.mem_of_getElem? h))))))))), hg⟩
theorem gt_9 {w : Cond} {i : Nat} (h : tables_1_9[i]? = some w) (hg : goodWord w = true) : w ∈ gw := List.mem_filter.mpr ⟨List.mem_append_right _ (List.mem_append_right _ (List.mem_append_right _ (List.mem_append_right _ (List.mem_append_right _ (List.mem_append_right _ (List.mem_append_right _ (List.mem_append_right _ (List.mem_append_right _ (List.mem_of_getElem? h))))))))), hg⟩
