/-! level 3: the heap while the constructors make it: cells by numbers in the order in which they are made, from B on; pointers may be null -/
abbrev Dp : Type := Nat × (Nat → Nat × Nat) × (Nat → Nat → Int32) × (Nat → Nat → Int64) × (Nat → Nat → Option Nat)
def dkd : List (List Nat) := [[2, 2, 2, 2, 2, 2, 2, 2, 2, 2, 2, 2, 2, 2, 0, 0], [0, 0, 0, 0, 2, 2, 2, 2, 2], [0, 0, 0, 0, 0, 2, 2, 2, 2, 2, 2, 2, 2, 2, 2, 2], [2, 2, 2, 0, 0], [2, 2, 0], [2, 0, 0], [2, 2, 2, 2, 0], [2, 2, 0], [2, 2, 2, 0, 0, 0, 2, 2], [0, 0, 0, 2, 2, 2, 2, 0, 2], [2, 0, 0, 0, 0, 0, 0, 0, 0, 0, 2], [2, 2, 2, 2, 2, 2, 2, 2, 2, 2, 2, 2, 2, 0, 0, 0, 0], [2, 0, 0, 0, 0, 0, 0, 0, 0, 2, 2, 2, 2, 2, 2, 2, 2, 2, 2, 2, 2, 2, 2, 2, 2, 2, 2, 2, 2, 2, 2, 2, 2, 2, 2, 2, 2, 2, 2, 0, 2, 2, 2, 2, 2, 2, 2, 2, 2, 2, 0, 0, 0, 0, 2, 2, 0, 0, 2, 2, 2, 2, 0, 0, 0, 2, 0, 2, 2, 2, 0, 2, 0, 0, 1, 2, 2, 2, 2, 2, 2, 2, 2, 2, 2, 2, 2, 2, 2, 2, 2, 2, 2, 2, 2, 2, 2, 2, 2, 2, 0, 2, 0, 0, 0, 2, 0, 1, 0, 2, 0]]
def dnf : List Nat := [16, 9, 16, 5, 3, 3, 5, 3, 8, 9, 11, 17, 111]
def dyI (D : Dp) (a k : Nat) (v : Int32) : Dp := (D.1, D.2.1, fun b => if b = a then upd (D.2.2.1 a) k v else D.2.2.1 b, D.2.2.2)
def dyJ (D : Dp) (a k : Nat) (v : Int64) : Dp := (D.1, D.2.1, D.2.2.1, fun b => if b = a then vp_updL (D.2.2.2.1 a) k v else D.2.2.2.1 b, D.2.2.2.2)
def dyP (D : Dp) (a k x : Nat) : Dp := (D.1, D.2.1, D.2.2.1, D.2.2.2.1, fun b => if b = a then va_up (D.2.2.2.2 a) k (some x) else D.2.2.2.2 b)
def dyN (D : Dp) (t n : Nat) : Dp := (D.1 + 1, fun b => if b = D.1 then (t, n) else D.2.1 b, fun b => if b = D.1 then (fun _ => 0) else D.2.2.1 b, fun b => if b = D.1 then (fun _ => 0) else D.2.2.2.1 b, fun b => if b = D.1 then (fun _ => none) else D.2.2.2.2 b)
def dy_k (c k : Nat) : Nat := (dkd.getD c []).getD k 0
def dy_v (B : Nat) (D : Dp) (a c k : Nat) : Value := if dy_k c k = 0 then .int (D.2.2.1 a k) else if dy_k c k = 1 then .long (D.2.2.2.1 a k) else va_rf ((D.2.2.2.2 a k).map (fun x => B + x))
def dy_c (B : Nat) (E : Ev) (D : Dp) (a : Nat) : va_E :=
  if (D.2.1 a).1 = 1 then .inr ((D.2.1 a).2, (List.range (dnf.getD (D.2.1 a).2 0)).map (dy_v B D a (D.2.1 a).2))
  else if (D.2.1 a).1 = 2 then .inl (E.2.2 0, (D.2.1 a).2, .inl (D.2.2.1 a))
  else if (D.2.1 a).1 = 3 then .inl (E.2.2 1, (D.2.1 a).2, .inl (D.2.2.1 a))
  else if (D.2.1 a).1 = 4 then .inl (E.2.2 2, (D.2.1 a).2, .inl (D.2.2.1 a))
  else if (D.2.1 a).1 = 5 then .inl (E.2.2 3, (D.2.1 a).2, .inr (.inl (D.2.2.2.1 a)))
  else if (D.2.1 a).1 = 6 then .inl (E.2.2 4, (D.2.1 a).2, .inl (D.2.2.1 a))
  else if (D.2.1 a).1 = 7 then .inl (E.2.2 5, (D.2.1 a).2, .inr (.inr (.inr (.inr (fun i => (D.2.2.2.2 a i).map (fun x => B + x))))))
  else .inl (E.2.2 6, (D.2.1 a).2, .inr (.inr (.inr (.inr (fun i => (D.2.2.2.2 a i).map (fun x => B + x))))))
def dy_w (B : Nat) (E : Ev) (D : Dp) : va_W := (List.range D.1).map (fun a => (B + a, dy_c B E D a))
theorem dy_at {B : Nat} {E : Ev} {D : Dp} {a : Nat} (h : a < D.1) : (dy_w B E D)[a]? = some (B + a, dy_c B E D a) := by
  unfold dy_w
  rw [List.getElem?_map, List.getElem?_range h]
  rfl
theorem dy_set {B : Nat} {E : Ev} {D D' : Dp} {a : Nat} (ha : a < D.1) (hn : D'.1 = D.1) (hb : ∀ b, b ≠ a → dy_c B E D' b = dy_c B E D b) : (dy_w B E D).set a (B + a, dy_c B E D' a) = dy_w B E D' := by
  apply List.ext_getElem?
  intro i
  unfold dy_w
  rw [List.getElem?_set, List.getElem?_map, List.getElem?_map, List.length_map, List.length_range, hn]
  by_cases hi : a = i
  · subst hi
    rw [if_pos rfl, if_pos ha, List.getElem?_range ha]
    rfl
  · rw [if_neg hi]
    by_cases hl : i < D.1
    · rw [List.getElem?_range hl]
      show some (B + i, dy_c B E D i) = some (B + i, dy_c B E D' i)
      rw [hb i (fun e => hi e.symm)]
    · rw [List.getElem?_eq_none (by rw [List.length_range]; omega)]
      rfl
theorem dy_psh {B : Nat} {E : Ev} {D D' : Dp} (hn : D'.1 = D.1 + 1) (hb : ∀ b, b ≠ D.1 → dy_c B E D' b = dy_c B E D b) : dy_w B E D ++ [(B + D.1, dy_c B E D' D.1)] = dy_w B E D' := by
  unfold dy_w
  rw [hn, List.range_succ, List.map_append]
  have e : (List.range D.1).map (fun a => (B + a, dy_c B E D a)) = (List.range D.1).map (fun a => (B + a, dy_c B E D' a)) := by
    apply List.map_congr_left
    intro a ha
    have hl := List.mem_range.mp ha
    show (B + a, dy_c B E D a) = (B + a, dy_c B E D' a)
    rw [hb a (by omega)]
  rw [e]
  rfl
theorem dy_cN {B : Nat} {E : Ev} {D : Dp} {t n : Nat} : ∀ b, b ≠ D.1 → dy_c B E (dyN D t n) b = dy_c B E D b := by
  intro b hb
  have e1 : (dyN D t n).2.1 b = D.2.1 b := if_neg hb
  have e2 : (dyN D t n).2.2.1 b = D.2.2.1 b := if_neg hb
  have e3 : (dyN D t n).2.2.2.1 b = D.2.2.2.1 b := if_neg hb
  have e4 : (dyN D t n).2.2.2.2 b = D.2.2.2.2 b := if_neg hb
  have ev : ∀ c, dy_v B (dyN D t n) b c = dy_v B D b c := fun c => by
    funext k
    unfold dy_v
    rw [e2, e3, e4]
  unfold dy_c
  rw [e1, e2, e3, e4, ev]
theorem dy_cI {B : Nat} {E : Ev} {D : Dp} {a k : Nat} {v : Int32} : ∀ b, b ≠ a → dy_c B E (dyI D a k v) b = dy_c B E D b := by
  intro b hb
  have e2 : (dyI D a k v).2.2.1 b = D.2.2.1 b := if_neg hb
  have ev : ∀ c, dy_v B (dyI D a k v) b c = dy_v B D b c := fun c => by
    funext k
    unfold dy_v
    rw [e2]
    rfl
  unfold dy_c
  rw [e2, ev]
  rfl
theorem dy_cJ {B : Nat} {E : Ev} {D : Dp} {a k : Nat} {v : Int64} : ∀ b, b ≠ a → dy_c B E (dyJ D a k v) b = dy_c B E D b := by
  intro b hb
  have e2 : (dyJ D a k v).2.2.2.1 b = D.2.2.2.1 b := if_neg hb
  have ev : ∀ c, dy_v B (dyJ D a k v) b c = dy_v B D b c := fun c => by
    funext k
    unfold dy_v
    rw [e2]
    rfl
  unfold dy_c
  rw [e2, ev]
  rfl
theorem dy_cP {B : Nat} {E : Ev} {D : Dp} {a k x : Nat} : ∀ b, b ≠ a → dy_c B E (dyP D a k x) b = dy_c B E D b := by
  intro b hb
  have e2 : (dyP D a k x).2.2.2.2 b = D.2.2.2.2 b := if_neg hb
  have ev : ∀ c, dy_v B (dyP D a k x) b c = dy_v B D b c := fun c => by
    funext k
    unfold dy_v
    rw [e2]
    rfl
  unfold dy_c
  rw [e2, ev]
  rfl
theorem dy_c1 {B : Nat} {E : Ev} {D : Dp} {a ci : Nat} (hs : D.2.1 a = (1, ci)) : dy_c B E D a = .inr (ci, (List.range (dnf.getD ci 0)).map (dy_v B D a ci)) := by
  unfold dy_c
  rw [hs]
  rfl
theorem dy_cA {B : Nat} {E : Ev} {D : Dp} {a n t : Nat} (hs : D.2.1 a = (t, n)) : (t = 2 → dy_c B E D a = .inl (E.2.2 0, n, .inl (D.2.2.1 a))) ∧ (t = 3 → dy_c B E D a = .inl (E.2.2 1, n, .inl (D.2.2.1 a))) ∧ (t = 4 → dy_c B E D a = .inl (E.2.2 2, n, .inl (D.2.2.1 a))) ∧ (t = 5 → dy_c B E D a = .inl (E.2.2 3, n, .inr (.inl (D.2.2.2.1 a)))) ∧ (t = 6 → dy_c B E D a = .inl (E.2.2 4, n, .inl (D.2.2.1 a)))
    ∧ (t = 7 → dy_c B E D a = .inl (E.2.2 5, n, .inr (.inr (.inr (.inr (fun i => (D.2.2.2.2 a i).map (fun x => B + x))))))) ∧ (t = 8 → dy_c B E D a = .inl (E.2.2 6, n, .inr (.inr (.inr (.inr (fun i => (D.2.2.2.2 a i).map (fun x => B + x))))))) := by
  refine ⟨?_, ?_, ?_, ?_, ?_, ?_, ?_⟩ <;> (intro ht; subst ht; unfold dy_c; rw [hs]; rfl)
theorem dy_D (B : Nat) (E : Ev) (D : Dp) : va_D (fun q : Nat => B ≤ q) (dy_w B E D) := by
  have h : ∀ (k : Nat) (q : Nat × va_E), (dy_w B E D)[k]? = some q → q.1 = B + k := by
    intro k q hq
    unfold dy_w at hq
    rw [List.getElem?_map] at hq
    by_cases hl : k < D.1
    · rw [List.getElem?_range hl] at hq
      cases hq
      rfl
    · rw [List.getElem?_eq_none (by rw [List.length_range]; omega)] at hq
      cases hq
  refine ⟨fun i j p q hi hj e => ?_, fun k q hq => ?_⟩
  · have h1 := h i p hi
    have h2 := h j q hj
    omega
  · have h1 := h k q hq
    show B ≤ q.1
    omega
def dy_R (B : Nat) (E : Ev) (s : State) (H0 H : Heap) (locs : List Loc) (D : Dp) : Prop := va_K E.1 vwCl (ho_t E) s ∧ va_P E.1 vwCl (dy_w B E D) H ∧ va_S (fun q : Nat => B ≤ q) H0 H locs
def nwL : List (String × Nat × MethodName) := [(RX11, 18, yX2_init), (RX11, 71, yX5_init), (RX11, 78, yX9_init), (RX0, 29, yX9_init), (RX2, 59, yX4_init), (RX6, 13, yX4_init)]
def dtx : String := "need  debt  rate  storesyieldstrick takes from  look  watch seat  glass sees  loses beliefboys  times year  numberknown sight left  seen  or    and   not   all   min   max   first last  often total most  least "
def dby : List Int32 := [110, 101, 101, 100, 32, 32, 100, 101, 98, 116, 32, 32, 114, 97, 116, 101, 32, 32, 115, 116, 111, 114, 101, 115, 121, 105, 101, 108, 100, 115, 116, 114, 105, 99, 107, 32, 116, 97, 107, 101, 115, 32, 102, 114, 111, 109, 32, 32, 108, 111, 111, 107, 32, 32, 119, 97, 116, 99, 104, 32, 115, 101, 97, 116, 32, 32, 103, 108, 97, 115, 115, 32, 115, 101, 101, 115, 32, 32, 108, 111, 115, 101, 115, 32, 98, 101, 108, 105, 101, 102, 98, 111, 121, 115, 32, 32, 116, 105, 109, 101, 115, 32, 121, 101, 97, 114, 32, 32, 110, 117, 109, 98, 101, 114, 107, 110, 111, 119, 110, 32, 115, 105, 103, 104, 116, 32, 108, 101, 102, 116, 32, 32, 115, 101, 101, 110, 32, 32, 111, 114, 32, 32, 32, 32, 97, 110, 100, 32, 32, 32, 110, 111, 116, 32, 32, 32, 97, 108, 108, 32, 32, 32, 109, 105, 110, 32, 32, 32, 109, 97, 120, 32, 32, 32, 102, 105, 114, 115, 116, 32, 108, 97, 115, 116, 32, 32, 111, 102, 116, 101, 110, 32, 116, 111, 116, 97, 108, 32, 109, 111, 115, 116, 32, 32, 108, 101, 97, 115, 116, 32]
/-- the words that a call may not carry by itself: nest mates' constructors, arrays over arrays and States, the text of the words -/
def dy_X (B : Nat) (ak av : Nat → Nat) (U : State) : Prop := (∀ q ∈ nwL, va_Nw (.methodLinkNest q.1 q.2.1 q.2.2 "EmptyHat") U) ∧ (Cond.arrayOver (.array .int)).before #[] U = true ∧ va_AO "EmptyHat$State" U ∧ vk_R RX10 47 dtx (ak 0) U ∧ vk_S 1 [210] [dby] ak av (fun q : Nat => B ≤ q) U U.heap ∧ va_Z "java/lang/String" "COMPACT_STRINGS" "Z" (.int 1) (fun q : Nat => B ≤ q) U U.heap ∧ va_Zq "jdk/internal/util/Preconditions" "SIOOBE_FORMATTER" "Ljava/util/function/BiFunction;" (fun q : Nat => B ≤ q) U U.heap
/-- inside a constructor that began with n cells -/
abbrev dy_I (p : Program) (s : State) (m : MethodId) (args : Array Value) (meth : Method) (c : Code) (own : String) (cc : ByteArray) (nL B n : Nat) (ak av : Nat → Nat) : Prop := ho_I p s m args meth c own cc nL none ∧ meth.name = "<init>" ∧ dy_X B ak av s ∧ s.heap.size = B + n
def dy_rm (d mc ms : Nat) : Room := { frames := d, cells := mc, slots := ms, locals := 64 * d }
def dy_pc (B : Nat) (E : Ev) (ak av : Nat → Nat) (n : Nat) (D : Dp) (U : State) : Prop := U.heap.size = B + n ∧ va_P E.1 vwCl (dy_w B E D) U.heap ∧ va_K E.1 vwCl (ho_t E) U ∧ dy_X B ak av U
def dy_Q (B : Nat) (E : Ev) (r : Dp) : Array Value → State → Outcome → State → Prop := fun _ st oc t => oc = .returned none ∧ va_P E.1 vwCl (dy_w B E r) t.heap ∧ va_F (fun q : Nat => B ≤ q) st t
def dy_M (l : Launch) (B : Nat) (E : Ev) (ak av : Nat → Nat) (y : MethodName) (cc : ByteArray) (mL d mc ms : Nat) (as : List Value) (n : Nat) (D r : Dp) : Prop := Met l y (ho_ws y cc mL none) (dy_rm d mc ms) (va_Pc as (dy_pc B E ak av n D)) (dy_Q B E r) mc ms (fun q : Nat => B ≤ q)
abbrev dy_Z (B : Nat) (E : Ev) (below : List Frame) (args : Array Value) (s : State) (mc ms : Nat) (r : Dp) : State → Prop := MQ below (dy_Q B E r) args s mc ms (fun q : Nat => B ≤ q)
theorem dy_in {l : Launch} {B : Nat} {E : Ev} {ak av : Nat → Nat} {y : MethodName} {cc : ByteArray} {mL d mc ms : Nat} {as : List Value} {n : Nat} {D r : Dp} (hy : plainName y.cls = true) (hi : y.name = "<init>") (ha : (lg_sl as).length ≤ mL)
    (body : ∀ (p : Program) (e : Env) (s : State) (m : MethodId) (args : Array Value) (below : List Frame) (meth : Method) (c : Code), dy_I p s m args meth c y.cls cc mL B n ak av → dy_R B E s s.heap s.heap [] D → ∀ ls : Array Slot, lv_has ls mL (lv_args 0 as) → W p l e (dy_rm d mc ms) s m args below meth c s.heap [] 0 0 (dy_Z B E below args s mc ms r) (F0 m 0 ls [])) : dy_M l B E ak av y cc mL d mc ms as n D r := by
  refine Met.ofW (cc := cc) (maxL := mL) (ret := none) hy rfl ?_
  intro p e s m args below meth c s₁ Bd hml hv
  obtain ⟨rfl, hsz, hP, hK, hX⟩ := hv
  have hts := atoms_spec (ws := ho_ws y cc mL none) Bd.pre
  have hl := lv_entry as (n := mL) ha
  rw [lg_entry_eq]
  exact body p e s m _ below meth c ⟨⟨Bd.exec, Bd.bytes, hml, Bd.returns, findClass_of_methodNamed Bd.named, fun w hw => hts w (List.mem_cons_of_mem _ hw), Bd.notSynchronized⟩, ((name_of_methodNamed Bd.named Bd.method).1).trans hi, hX, hsz⟩ ⟨hK, hP, va_S.rf⟩ _ hl
section DY
variable {p : Program} {l : Launch} {e : Env} {R : Room} {s : State} {m : MethodId} {args : Array Value} {below : List Frame} {meth : Method} {c : Code} {H H0 : Heap} {locs : List Loc} {Q : State → Prop} {cells slots : Nat}
variable {B n : Nat} {E : Ev} {D D' : Dp} {ak av : Nat → Nat} {own : String} {cc : ByteArray} {nL : Nat} {ret : Option FieldType} {pc : Nat} {ls : Array Slot} {rest : List Value}
theorem dy_bd {g : JFrame} (kk : H.size ≤ s.heap.size + cells → W p l e R s m args below meth c H locs cells slots Q g) : W p l e R s m args below meth c H locs cells slots Q g := fun T hT X => by
  have h := X.same.2.2.1
  have h2 : T.heap.size ≤ s.heap.size + cells := h
  rw [hT] at h2
  exact kk h2 T hT X
theorem dy_lt (hP : va_P E.1 vwCl (dy_w B E D) H) (h0 : 0 < D.1) : B + D.1 ≤ H.size := by
  have he := dy_at (B := B) (E := E) (D := D) (a := D.1 - 1) (by omega)
  have := (hP _ _ he).lt
  have h2 : B + (D.1 - 1) < H.size := this
  omega
theorem dy_A (I : dy_I p s m args meth c own cc nL B n ak av) : ∀ q : Nat, s.heap.size ≤ q → (fun q : Nat => B ≤ q) q := fun q h => by
  have := I.2.2.2
  show B ≤ q
  omega
/-- a field by its link, for the heap while it is made -/
abbrev dy_f (own : String) (ci : Nat) (T : u_T) (N idx k kd : Nat) (ft : FieldType) (fin : Bool) : Prop := dnf.getD ci 0 = N ∧ k < N ∧ Cond.fieldLink own idx (T k).1 (T k).2.1 (T k).2.2.1 ∈ gw ∧ dy_k ci k = kd ∧ (T k).2.2.2 = fin ∧ parseFieldDescriptor (T k).2.2.1 = some ft ∧ (fin = true → (T k).1 = own)
theorem dy_put {a ci k idx N : Nat} {Cn : String} {T : u_T} {ty : Nat → FieldType} {ft : FieldType} {fin : Bool} {v : Value} {kd : Nat} (I : dy_I p s m args meth c own cc nL B n ak av) (F : ho_F ci Cn T ty N) (hf : dy_f own ci T N idx k kd ft fin) (hR : dy_R B E s s.heap H locs D) (ha : a < D.1 ∧ D.2.1 a = (1, ci)) (hna : narrow ft v = v) (hfit : fits ft v = true)
    (hn : D'.1 = D.1) (hs : D'.2.1 a = D.2.1 a) (hv : dy_v B D' a ci k = v) (hv2 : ∀ j, j ≠ k → dy_v B D' a ci j = dy_v B D a ci j) (hb2 : ∀ b, b ≠ a → dy_c B E D' b = dy_c B E D b) (hdg : decode cc pc = .ok (.putfield idx, 3))
    (kk : ∀ (H1 : Heap) (locs1 : List Loc), dy_R B E s s.heap H1 locs1 D' → W p l e R s m args below meth c H1 locs1 cells slots Q (F0 m (pc + 3) ls rest)) : W p l e R s m args below meth c H locs cells slots Q (F0 m pc ls (v :: .ref (B + a) :: rest)) := by
  obtain ⟨⟨hx, hb, -, -, hown, hts, -⟩, hin, -⟩ := I
  have he := dy_at (B := B) (E := E) ha.1
  rw [dy_c1 ha.2] at he
  obtain ⟨hK, hP, hS⟩ := hR
  have hD := dy_D B E D
  have e1 : ((List.range (dnf.getD ci 0)).map (dy_v B D a ci)).set k v = (List.range (dnf.getD ci 0)).map (dy_v B D' a ci) := ho_fs hv hv2
  have hl : k < ((List.range (dnf.getD ci 0)).map (dy_v B D a ci)).length := by rw [List.length_map, List.length_range, hf.1]; exact hf.2.1
  have e2 : dy_c B E D' a = .inr (ci, (List.range (dnf.getD ci 0)).map (dy_v B D' a ci)) := dy_c1 (by rw [hs]; exact ha.2)
  have fin1 : ∀ (H1 : Heap) (locs1 : List Loc), va_P E.1 vwCl ((dy_w B E D).set a (B + a, .inr (ci, ((List.range (dnf.getD ci 0)).map (dy_v B D a ci)).set k v))) H1 → va_D (fun q : Nat => B ≤ q) ((dy_w B E D).set a (B + a, .inr (ci, ((List.range (dnf.getD ci 0)).map (dy_v B D a ci)).set k v))) → va_S (fun q : Nat => B ≤ q) s.heap H1 locs1 → W p l e R s m args below meth c H1 locs1 cells slots Q (F0 m (pc + 3) ls rest) := by
    intro H1 locs1 hP _ hS
    rw [e1, ← e2, dy_set ha.1 hn hb2] at hP
    exact kk H1 locs1 ⟨hK, hP, hS⟩
  cases fin with
  | true => exact va_putF hx hb hts F.2.1 ty F.2.2.1 F.2.2.2 hown hK hP hD hS a he F.1 k hf.2.1 (hts _ hf.2.2.1) (fun _ h9 => h9) hf.2.2.2.2.1 hin (hf.2.2.2.2.2.2 rfl) hf.2.2.2.2.2.1 hna hfit hl hdg fin1
  | false => exact va_put hx hb hts F.2.1 ty F.2.2.1 F.2.2.2 hown hK hP hD hS a he F.1 k hf.2.1 (hts _ hf.2.2.1) (fun _ h9 => h9) hf.2.2.2.2.1 hf.2.2.2.2.2.1 hna hfit hl hdg fin1
end DY
