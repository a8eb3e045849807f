/-! level 3: rows for the heap while it is made -/
theorem dy_ix {B : Nat} {E : Ev} {D : Dp} {k : Nat} {q : Nat × va_E} (hq : (dy_w B E D)[k]? = some q) : k < D.1 ∧ q = (B + k, dy_c B E D k) := by
  unfold dy_w at hq
  rw [List.getElem?_map] at hq
  by_cases hl : k < D.1
  · rw [List.getElem?_range hl] at hq
    cases hq
    exact ⟨hl, rfl⟩
  · rw [List.getElem?_eq_none (by rw [List.length_range]; omega)] at hq
    cases hq
theorem dr_vI {B : Nat} {D : Dp} {a ci k : Nat} {v : Int32} (hk : dy_k ci k = 0) : dy_v B (dyI D a k v) a ci k = .int v ∧ ∀ j, j ≠ k → dy_v B (dyI D a k v) a ci j = dy_v B D a ci j := by
  have e : (dyI D a k v).2.2.1 a = upd (D.2.2.1 a) k v := if_pos rfl
  refine ⟨?_, fun j hj => ?_⟩
  · unfold dy_v
    rw [if_pos hk, e, pk_us]
  · unfold dy_v
    rw [e, pk_un hj]
    rfl
theorem dr_vJ {B : Nat} {D : Dp} {a ci k : Nat} {v : Int64} (hk : dy_k ci k = 1) : dy_v B (dyJ D a k v) a ci k = .long v ∧ ∀ j, j ≠ k → dy_v B (dyJ D a k v) a ci j = dy_v B D a ci j := by
  have e : (dyJ D a k v).2.2.2.1 a = vp_updL (D.2.2.2.1 a) k v := if_pos rfl
  refine ⟨?_, fun j hj => ?_⟩
  · unfold dy_v
    rw [if_neg (by rw [hk]; decide), if_pos hk, e, pk_uLs]
  · unfold dy_v
    rw [e, pk_uLn hj]
    rfl
theorem dr_vP {B : Nat} {D : Dp} {a ci k x : Nat} (hk : dy_k ci k = 2) : dy_v B (dyP D a k x) a ci k = .ref (B + x) ∧ ∀ j, j ≠ k → dy_v B (dyP D a k x) a ci j = dy_v B D a ci j := by
  have e : (dyP D a k x).2.2.2.2 a = va_up (D.2.2.2.2 a) k (some x) := if_pos rfl
  have e1 : va_up (D.2.2.2.2 a) k (some x) k = some x := if_pos rfl
  refine ⟨?_, fun j hj => ?_⟩
  · unfold dy_v
    rw [if_neg (by rw [hk]; decide), if_neg (by rw [hk]; decide), e, e1]
    rfl
  · have e2 : va_up (D.2.2.2.2 a) k (some x) j = D.2.2.2.2 a j := if_neg hj
    unfold dy_v
    rw [e, e2]
    rfl
theorem dr_cN {B : Nat} {E : Ev} {D : Dp} {t n : Nat} : (t = 2 → dy_c B E (dyN D t n) D.1 = .inl (E.2.2 0, n, .inl (fun _ => 0))) ∧ (t = 3 → dy_c B E (dyN D t n) D.1 = .inl (E.2.2 1, n, .inl (fun _ => 0))) ∧ (t = 4 → dy_c B E (dyN D t n) D.1 = .inl (E.2.2 2, n, .inl (fun _ => 0))) ∧ (t = 5 → dy_c B E (dyN D t n) D.1 = .inl (E.2.2 3, n, .inr (.inl (fun _ => 0)))) ∧ (t = 6 → dy_c B E (dyN D t n) D.1 = .inl (E.2.2 4, n, .inl (fun _ => 0))) ∧ (t = 7 → dy_c B E (dyN D t n) D.1 = .inl (E.2.2 5, n, .inr (.inr (.inr (.inr (fun _ => none)))))) := by
  have hs : (dyN D t n).2.1 D.1 = (t, n) := if_pos rfl
  have e2 : (dyN D t n).2.2.1 D.1 = (fun _ => 0) := if_pos rfl
  have e3 : (dyN D t n).2.2.2.1 D.1 = (fun _ => 0) := if_pos rfl
  have e4 : (dyN D t n).2.2.2.2 D.1 = (fun _ => none) := if_pos rfl
  obtain ⟨h2, h3, h4, h5, h6, h7, -⟩ := dy_cA (B := B) (E := E) hs
  rw [e2] at h2 h3 h4 h6
  rw [e3] at h5
  rw [e4] at h7
  exact ⟨h2, h3, h4, h5, h6, h7⟩
/-- plain words: what is looked at before a thing is done -/
def kN {β : Type} (D : Dp) (n : Nat) (f : Option β) : Option β := if D.1 = n then f else none
def kO {β : Type} (D : Dp) (a t c : Nat) (f : Option β) : Option β := if a < D.1 ∧ D.2.1 a = (t, c) then f else none
def kP {β : Type} (D : Dp) (a k x : Nat) (f : Option β) : Option β := if D.2.2.2.2 a k = some x then f else none
theorem kN_ok {β : Type} {D : Dp} {n : Nat} {f : Option β} {r : β} (h : kN D n f = some r) : D.1 = n ∧ f = some r := by
  unfold kN at h
  by_cases e : D.1 = n
  · rw [if_pos e] at h; exact ⟨e, h⟩
  · rw [if_neg e] at h; cases h
theorem kO_ok {β : Type} {D : Dp} {a t c : Nat} {f : Option β} {r : β} (h : kO D a t c f = some r) : (a < D.1 ∧ D.2.1 a = (t, c)) ∧ f = some r := by
  unfold kO at h
  by_cases e : a < D.1 ∧ D.2.1 a = (t, c)
  · rw [if_pos e] at h; exact ⟨e, h⟩
  · rw [if_neg e] at h; cases h
theorem kP_ok {β : Type} {D : Dp} {a k x : Nat} {f : Option β} {r : β} (h : kP D a k x f = some r) : D.2.2.2.2 a k = some x ∧ f = some r := by
  unfold kP at h
  by_cases e : D.2.2.2.2 a k = some x
  · rw [if_pos e] at h; exact ⟨e, h⟩
  · rw [if_neg e] at h; cases h
theorem dr_o {D D' : Dp} {a t c : Nat} (h : a < D.1 ∧ D.2.1 a = (t, c)) (h1 : D'.1 = D.1) (h2 : D'.2.1 = D.2.1) : a < D'.1 ∧ D'.2.1 a = (t, c) := by rw [h1, h2]; exact h
theorem dr_oN {D D' : Dp} {a t c t2 n2 : Nat} (h : a < D.1 ∧ D.2.1 a = (t, c)) (e : D' = dyN D t2 n2) : a < D'.1 ∧ D'.2.1 a = (t, c) := by
  subst e
  refine ⟨Nat.lt_succ_of_lt h.1, ?_⟩
  show (if a = D.1 then (t2, n2) else D.2.1 a) = _
  rw [if_neg (by omega)]
  exact h.2
theorem dr_new1 {D D' : Dp} {t n k0 : Nat} (hc : D.1 = k0) (e : D' = dyN D t n) : k0 < D'.1 ∧ D'.2.1 k0 = (t, n) := by
  subst e
  subst hc
  exact ⟨Nat.lt_succ_self _, if_pos rfl⟩
section DY2
variable {p : Program} {l : Launch} {e : Env} {R : Room} {s : State} {m : MethodId} {args : Array Value} {below : List Frame} {meth : Method} {c : Code} {H H0 : Heap} {locs : List Loc} {Q : State → Prop} {cells slots : Nat}
variable {B n : Nat} {E : Ev} {D D' : Dp} {ak av : Nat → Nat} {own : String} {cc : ByteArray} {nL : Nat} {ret : Option FieldType} {pc : Nat} {ls : Array Slot} {rest : List Value}
variable {a ci k idx N k0 : Nat} {Cn : String} {T : u_T} {ty : Nat → FieldType} {fin : Bool}
theorem dr_putI {v : Int32} (I : dy_I p s m args meth c own cc nL B n ak av) (F : ho_F ci Cn T ty N) (hf : dy_f own ci T N idx k 0 .int fin) (hR : dy_R B E s s.heap H locs D) (ha : a < D.1 ∧ D.2.1 a = (1, ci)) (e1 : D' = dyI D a k v) (hdg : decode cc pc = .ok (.putfield idx, 3))
    (kk : ∀ (H1 : Heap) (locs1 : List Loc), dy_R B E s s.heap H1 locs1 D' → W p l e R s m args below meth c H1 locs1 cells slots Q (F0 m (pc + 3) ls rest)) : W p l e R s m args below meth c H locs cells slots Q (F0 m pc ls (.int v :: .ref (B + a) :: rest)) := by
  subst e1
  exact dy_put (D' := dyI D a k v) I F hf hR ha rfl rfl rfl rfl (dr_vI hf.2.2.2.1).1 (dr_vI hf.2.2.2.1).2 dy_cI hdg kk
theorem dr_putZ {v : Int32} (hz : v = 0 ∨ v = 1) (I : dy_I p s m args meth c own cc nL B n ak av) (F : ho_F ci Cn T ty N) (hf : dy_f own ci T N idx k 0 .boolean fin) (hR : dy_R B E s s.heap H locs D) (ha : a < D.1 ∧ D.2.1 a = (1, ci)) (e1 : D' = dyI D a k v) (hdg : decode cc pc = .ok (.putfield idx, 3))
    (kk : ∀ (H1 : Heap) (locs1 : List Loc), dy_R B E s s.heap H1 locs1 D' → W p l e R s m args below meth c H1 locs1 cells slots Q (F0 m (pc + 3) ls rest)) : W p l e R s m args below meth c H locs cells slots Q (F0 m pc ls (.int v :: .ref (B + a) :: rest)) := by
  subst e1
  have hn : narrow .boolean (.int v) = .int v := by rcases hz with rfl | rfl <;> decide
  have hf2 : fits .boolean (.int v) = true := by rcases hz with rfl | rfl <;> decide
  exact dy_put (D' := dyI D a k v) I F hf hR ha hn hf2 rfl rfl (dr_vI hf.2.2.2.1).1 (dr_vI hf.2.2.2.1).2 dy_cI hdg kk
theorem dr_putJ {v : Int64} (I : dy_I p s m args meth c own cc nL B n ak av) (F : ho_F ci Cn T ty N) (hf : dy_f own ci T N idx k 1 .long fin) (hR : dy_R B E s s.heap H locs D) (ha : a < D.1 ∧ D.2.1 a = (1, ci)) (e1 : D' = dyJ D a k v) (hdg : decode cc pc = .ok (.putfield idx, 3))
    (kk : ∀ (H1 : Heap) (locs1 : List Loc), dy_R B E s s.heap H1 locs1 D' → W p l e R s m args below meth c H1 locs1 cells slots Q (F0 m (pc + 3) ls rest)) : W p l e R s m args below meth c H locs cells slots Q (F0 m pc ls (.long v :: .ref (B + a) :: rest)) := by
  subst e1
  exact dy_put (D' := dyJ D a k v) I F hf hR ha rfl rfl rfl rfl (dr_vJ hf.2.2.2.1).1 (dr_vJ hf.2.2.2.1).2 dy_cJ hdg kk
theorem dr_putP {x : Nat} {ft : FieldType} (hft : ∀ y : Nat, narrow ft (.ref y) = .ref y ∧ fits ft (.ref y) = true) (I : dy_I p s m args meth c own cc nL B n ak av) (F : ho_F ci Cn T ty N) (hf : dy_f own ci T N idx k 2 ft fin) (hR : dy_R B E s s.heap H locs D) (ha : a < D.1 ∧ D.2.1 a = (1, ci)) (e1 : D' = dyP D a k x) (hdg : decode cc pc = .ok (.putfield idx, 3))
    (kk : ∀ (H1 : Heap) (locs1 : List Loc), dy_R B E s s.heap H1 locs1 D' → W p l e R s m args below meth c H1 locs1 cells slots Q (F0 m (pc + 3) ls rest)) : W p l e R s m args below meth c H locs cells slots Q (F0 m pc ls (.ref (B + x) :: .ref (B + a) :: rest)) := by
  subst e1
  exact dy_put (D' := dyP D a k x) I F hf hR ha (hft _).1 (hft _).2 rfl rfl (dr_vP hf.2.2.2.1).1 (dr_vP hf.2.2.2.1).2 dy_cP hdg kk
theorem dr_getP {x : Nat} {ft : FieldType} (I : dy_I p s m args meth c own cc nL B n ak av) (F : ho_F ci Cn T ty N) (hf : dy_f own ci T N idx k 2 ft fin) (hR : dy_R B E s s.heap H locs D) (ha : a < D.1 ∧ D.2.1 a = (1, ci)) (hx : D.2.2.2.2 a k = some x) (hdg : decode cc pc = .ok (.getfield idx, 3))
    (kk : W p l e R s m args below meth c H locs cells slots Q (F0 m (pc + 3) ls (.ref (B + x) :: rest))) : W p l e R s m args below meth c H locs cells slots Q (F0 m pc ls (.ref (B + a) :: rest)) := by
  obtain ⟨⟨hex, hb, -, -, hown, hts, -⟩, -⟩ := I
  have he := dy_at (B := B) (E := E) ha.1
  rw [dy_c1 ha.2] at he
  refine va_get hex hb hts F.2.1 hown hR.1 hR.2.1 a he F.1 k hf.2.1 (hts _ hf.2.2.1) (fun _ h9 => h9) ?_ hdg kk
  rw [List.getElem?_map, List.getElem?_range (by rw [hf.1]; exact hf.2.1)]
  show some (dy_v B D a ci k) = some (.ref (B + x))
  unfold dy_v
  rw [if_neg (by rw [hf.2.2.2.1]; decide), if_neg (by rw [hf.2.2.2.1]; decide), hx]
  rfl
theorem dr_sz (I : dy_I p s m args meth c own cc nL B n ak av) (hR : dy_R B E s s.heap H locs D) (hc : D.1 = k0) (hk : k0 = n + cells) (h0 : 0 < D.1) (hbd : H.size ≤ s.heap.size + cells) : H.size = B + k0 := by
  have h1 := dy_lt hR.2.1 h0
  have h2 := I.2.2.2
  omega
theorem dr_new (I : dy_I p s m args meth c own cc nL B n ak av) (F : ho_F ci Cn T ty N) (hw : Cond.classLink own idx Cn ∈ gw ∧ Cond.instantiable Cn N ∈ gw ∧ Cond.initialized Cn ∈ gw) (hN : dnf.getD ci 0 = N) (hdf : ∀ j, j < N → defaultValue (ty j) = if dy_k ci j = 0 then .int 0 else if dy_k ci j = 1 then .long 0 else .null) (hR : dy_R B E s s.heap H locs D) (hc : D.1 = k0) (hk : k0 = n + cells) (h0 : 0 < D.1) (e1 : D' = dyN D 1 ci) (hcells : cells + 1 ≤ R.cells) (hslots : slots + N ≤ R.slots) (hdg : decode cc pc = .ok (.new idx, 3))
    (kk : ∀ (H1 : Heap), dy_R B E s s.heap H1 locs D' → W p l e R s m args below meth c H1 locs (cells + 1) (slots + N) Q (F0 m (pc + 3) ls (.ref (B + k0) :: rest))) : W p l e R s m args below meth c H locs cells slots Q (F0 m pc ls rest) := by
  refine dy_bd (fun hbd => ?_)
  have hh := dr_sz I hR hc hk h0 hbd
  obtain ⟨⟨hx, hb, -, -, hown, hts, -⟩, -, -, -⟩ := I
  obtain ⟨hK, hP, hS⟩ := hR
  have hKn := hK.1 ci _ F.1
  refine W.newcK hx hb hown (hts _ hw.1) (hts _ hw.2.1) (hts _ hw.2.2) rfl hdg hcells hslots hKn.2.1 hh fun H1 kC hkC e2 z1 o1 => ?_
  subst e1
  refine kk H1 ⟨hK, fun j q hq => ?_, ⟨by rw [z1, ← hh]; exact Nat.le_trans hS.1 (Nat.le_succ _), fun x h1 h2 => (o1 x (by rw [← hh]; exact Nat.lt_of_lt_of_le h1 hS.1)).trans (hS.2.1 x h1 h2), hS.2.2⟩⟩
  obtain ⟨hj, rfl⟩ := dy_ix hq
  by_cases ej : j = D.1
  · subst ej
    rw [dy_c1 (show (dyN D 1 ci).2.1 D.1 = (1, ci) from if_pos rfl), hc]
    refine ⟨_, F.1, (u_born ty hts F.2.1 hKn hkC e2 F.2.2.1).to (fun j hj2 => ?_)⟩
    unfold vp_V
    rw [List.getD_eq_getElem?_getD, List.getElem?_map, List.getElem?_range (by rw [hN]; exact hj2), hdf j hj2]
    show _ = dy_v B (dyN D 1 ci) k0 ci j
    have e5 : (dyN D 1 ci).2.2.1 k0 = (fun _ => 0) := if_pos hc.symm
    have e6 : (dyN D 1 ci).2.2.2.1 k0 = (fun _ => 0) := if_pos hc.symm
    have e7 : (dyN D 1 ci).2.2.2.2 k0 = (fun _ => none) := if_pos hc.symm
    unfold dy_v
    rw [e5, e6, e7]
    rfl
  · have hjl : j < D.1 := by
      have : j < D.1 + 1 := hj
      omega
    rw [dy_cN j ej]
    have he := dy_at (B := B) (E := E) hjl
    exact (hP _ _ he).kept (o1 _ (by rw [← hh]; exact (hP _ _ he).lt))
theorem dr_newa {atype : ArrayType} {fty : FieldType} {t kt : Nat} {nn : Int32} {z : (Nat → Int32) ⊕ (Nat → Int64) ⊕ (Nat → UInt32) ⊕ (Nat → UInt64) ⊕ (Nat → Option Nat)} (I : dy_I p s m args meth c own cc nL B n ak av) (harr : Cond.arrayClass (newarray.typeOf atype) ∈ gw) (hty : newarray.typeOf atype = fty) (ht : (ho_t E)[kt]? = some (E.2.2 kt, fty)) (hra : va_RA s (E.2.2 kt) fty = (s.vm.findClass ("[" ++ fty.toString) = some (E.2.2 kt))) (hz : ∀ cA : ClassId, vp_cell cA (N, z) = arrV cA N (fun _ => defaultValue fty)) (hdc : dy_c B E (dyN D t N) D.1 = .inl (E.2.2 kt, N, z))
    (hn : ¬ nn < 0) (hN : nn.toNatClampNeg = N) (hby : N * componentBytes fty ≤ 536870912) (hR : dy_R B E s s.heap H locs D) (hc : D.1 = k0) (hk : k0 = n + cells) (h0 : 0 < D.1) (e1 : D' = dyN D t N) (hcells : cells + 1 ≤ R.cells) (hslots : slots + N ≤ R.slots) (hdg : decode cc pc = .ok (.newarray atype, 2))
    (kk : ∀ (H1 : Heap), dy_R B E s s.heap H1 locs D' → W p l e R s m args below meth c H1 locs (cells + 1) (slots + N) Q (F0 m (pc + 2) ls (.ref (B + k0) :: rest))) : W p l e R s m args below meth c H locs cells slots Q (F0 m pc ls (.int nn :: rest)) := by
  refine dy_bd (fun hbd => ?_)
  have hh := dr_sz I hR hc hk h0 hbd
  obtain ⟨⟨hx, hb, -, -, hown, hts, -⟩, -, -, -⟩ := I
  obtain ⟨hK, hP, hS⟩ := hR
  subst hty
  refine va_newaK hx hb (hts _ harr) rfl hdg rfl hn hN hby hcells hslots hh fun H1 cA e2 z1 o1 hAr hNm => ?_
  subst e1
  have hcA : cA = E.2.2 kt := by
    have h := (hK.2 kt _ ht).2
    have h' : va_RA s (E.2.2 kt) (newarray.typeOf atype) := h
    rw [hra] at h'
    exact Option.some.inj (hNm.symm.trans h')
  subst hcA
  refine kk H1 ⟨hK, fun j q hq => ?_, ⟨by rw [z1, ← hh]; exact Nat.le_trans hS.1 (Nat.le_succ _), fun x h1 h2 => (o1 x (by rw [← hh]; exact Nat.lt_of_lt_of_le h1 hS.1)).trans (hS.2.1 x h1 h2), hS.2.2⟩⟩
  obtain ⟨hj, rfl⟩ := dy_ix hq
  by_cases ej : j = D.1
  · subst ej
    rw [hdc, hc]
    show H1[B + k0]? = some (vp_cell _ _)
    rw [hz]
    exact e2
  · have hjl : j < D.1 := by
      have : j < D.1 + 1 := hj
      omega
    rw [dy_cN j ej]
    have he := dy_at (B := B) (E := E) hjl
    exact (hP _ _ he).kept (o1 _ (by rw [← hh]; exact (hP _ _ he).lt))
theorem dr_newI {nn : Int32} (I : dy_I p s m args meth c own cc nL B n ak av) (harr : Cond.arrayClass .int ∈ gw) (hn : ¬ nn < 0) (hN : nn.toNatClampNeg = N) (hby : N * 4 ≤ 536870912) (hR : dy_R B E s s.heap H locs D) (hc : D.1 = k0) (hk : k0 = n + cells) (h0 : 0 < D.1) (e1 : D' = dyN D 4 N) (hcells : cells + 1 ≤ R.cells) (hslots : slots + N ≤ R.slots) (hdg : decode cc pc = .ok (.newarray .int, 2))
    (kk : ∀ (H1 : Heap), dy_R B E s s.heap H1 locs D' → W p l e R s m args below meth c H1 locs (cells + 1) (slots + N) Q (F0 m (pc + 2) ls (.ref (B + k0) :: rest))) : W p l e R s m args below meth c H locs cells slots Q (F0 m pc ls (.int nn :: rest)) :=
  dr_newa (atype := .int) (fty := .int) (kt := 2) (z := .inl (fun _ => 0)) I harr rfl rfl rfl (fun _ => rfl) (dr_cN.2.2.1 rfl) hn hN hby hR hc hk h0 e1 hcells hslots hdg kk
theorem dr_newC {nn : Int32} (I : dy_I p s m args meth c own cc nL B n ak av) (harr : Cond.arrayClass .char ∈ gw) (hn : ¬ nn < 0) (hN : nn.toNatClampNeg = N) (hby : N * 2 ≤ 536870912) (hR : dy_R B E s s.heap H locs D) (hc : D.1 = k0) (hk : k0 = n + cells) (h0 : 0 < D.1) (e1 : D' = dyN D 3 N) (hcells : cells + 1 ≤ R.cells) (hslots : slots + N ≤ R.slots) (hdg : decode cc pc = .ok (.newarray .char, 2))
    (kk : ∀ (H1 : Heap), dy_R B E s s.heap H1 locs D' → W p l e R s m args below meth c H1 locs (cells + 1) (slots + N) Q (F0 m (pc + 2) ls (.ref (B + k0) :: rest))) : W p l e R s m args below meth c H locs cells slots Q (F0 m pc ls (.int nn :: rest)) :=
  dr_newa (atype := .char) (fty := .char) (kt := 1) (z := .inl (fun _ => 0)) I harr rfl rfl rfl (fun _ => rfl) (dr_cN.2.1 rfl) hn hN hby hR hc hk h0 e1 hcells hslots hdg kk
theorem dr_newB {nn : Int32} (I : dy_I p s m args meth c own cc nL B n ak av) (harr : Cond.arrayClass .byte ∈ gw) (hn : ¬ nn < 0) (hN : nn.toNatClampNeg = N) (hby : N * 1 ≤ 536870912) (hR : dy_R B E s s.heap H locs D) (hc : D.1 = k0) (hk : k0 = n + cells) (h0 : 0 < D.1) (e1 : D' = dyN D 2 N) (hcells : cells + 1 ≤ R.cells) (hslots : slots + N ≤ R.slots) (hdg : decode cc pc = .ok (.newarray .byte, 2))
    (kk : ∀ (H1 : Heap), dy_R B E s s.heap H1 locs D' → W p l e R s m args below meth c H1 locs (cells + 1) (slots + N) Q (F0 m (pc + 2) ls (.ref (B + k0) :: rest))) : W p l e R s m args below meth c H locs cells slots Q (F0 m pc ls (.int nn :: rest)) :=
  dr_newa (atype := .byte) (fty := .byte) (kt := 0) (z := .inl (fun _ => 0)) I harr rfl rfl rfl (fun _ => rfl) (dr_cN.1 rfl) hn hN hby hR hc hk h0 e1 hcells hslots hdg kk
theorem dr_newL {nn : Int32} (I : dy_I p s m args meth c own cc nL B n ak av) (harr : Cond.arrayClass .long ∈ gw) (hn : ¬ nn < 0) (hN : nn.toNatClampNeg = N) (hby : N * 8 ≤ 536870912) (hR : dy_R B E s s.heap H locs D) (hc : D.1 = k0) (hk : k0 = n + cells) (h0 : 0 < D.1) (e1 : D' = dyN D 5 N) (hcells : cells + 1 ≤ R.cells) (hslots : slots + N ≤ R.slots) (hdg : decode cc pc = .ok (.newarray .long, 2))
    (kk : ∀ (H1 : Heap), dy_R B E s s.heap H1 locs D' → W p l e R s m args below meth c H1 locs (cells + 1) (slots + N) Q (F0 m (pc + 2) ls (.ref (B + k0) :: rest))) : W p l e R s m args below meth c H locs cells slots Q (F0 m pc ls (.int nn :: rest)) :=
  dr_newa (atype := .long) (fty := .long) (kt := 3) (z := .inr (.inl (fun _ => 0))) I harr rfl rfl rfl (fun _ => rfl) (dr_cN.2.2.2.1 rfl) hn hN hby hR hc hk h0 e1 hcells hslots hdg kk
theorem dr_newZ {nn : Int32} (I : dy_I p s m args meth c own cc nL B n ak av) (harr : Cond.arrayClass .boolean ∈ gw) (hn : ¬ nn < 0) (hN : nn.toNatClampNeg = N) (hby : N * 1 ≤ 536870912) (hR : dy_R B E s s.heap H locs D) (hc : D.1 = k0) (hk : k0 = n + cells) (h0 : 0 < D.1) (e1 : D' = dyN D 6 N) (hcells : cells + 1 ≤ R.cells) (hslots : slots + N ≤ R.slots) (hdg : decode cc pc = .ok (.newarray .boolean, 2))
    (kk : ∀ (H1 : Heap), dy_R B E s s.heap H1 locs D' → W p l e R s m args below meth c H1 locs (cells + 1) (slots + N) Q (F0 m (pc + 2) ls (.ref (B + k0) :: rest))) : W p l e R s m args below meth c H locs cells slots Q (F0 m pc ls (.int nn :: rest)) :=
  dr_newa (atype := .boolean) (fty := .boolean) (kt := 4) (z := .inl (fun _ => 0)) I harr rfl rfl rfl (fun _ => rfl) (dr_cN.2.2.2.2.1 rfl) hn hN hby hR hc hk h0 e1 hcells hslots hdg kk
theorem dr_obj {d mc ms x : Nat} (I : dy_I p s m args meth c own cc nL B n ak av) (hlk : Cond.methodLink own idx Lib.objectInit ∈ gw) (hin : Cond.instanceMethod Lib.objectInit ∈ gw) (hco : Cond.code Lib.objectInit ⟨#[0xb1]⟩ 1 none ∈ gw) (hl : ls.size = nL) (hd : 1 ≤ d) (hdg : decode cc pc = .ok (.invokespecial idx, 3))
    (kk : W p l e (dy_rm d mc ms) s m args below meth c H locs cells slots Q (F0 m (pc + 3) ls [])) : W p l e (dy_rm d mc ms) s m args below meth c H locs cells slots Q (F0 m pc ls [.ref x]) := by
  obtain ⟨⟨hx, hb, hml, -, hown, hts, -⟩, -⟩ := I
  refine W.objInit hx hb hown (hts _ hlk) (hts _ hin) (hts _ hco) rfl (by rw [hml]; exact hl) rfl hdg hd ?_ kk
  have h := lv_room (m := m) (pc := pc) (ls := ls) (rest := [.ref x]) (st := []) (by simp)
  show 2 * (F0 m pc ls [.ref x]).monitorRoom + (([] : List Value).map fun v => v.category).sum + 12 ≤ 64 * d
  omega
theorem dr_ret {d mc ms : Nat} {r : Dp} (I : dy_I p s m args meth c own cc nL B n ak av) (hR : dy_R B E s s.heap H locs D) (h : some D = some r) (hcells : cells ≤ mc) (hslots : slots ≤ ms) (hdg : decode cc pc = .ok (.return_, 1)) : W p l e R s m args below meth c H locs cells slots (dy_Z B E below args s mc ms r) (F0 m pc ls []) := by
  obtain rfl := Option.some.inj h
  refine W.widen hcells hslots ?_
  refine W.vret I.1.1 I.1.2.1 I.1.2.2.2.1 (fun t ht _ => ?_) hR.2.2.2.2 hdg (hlocks := I.1.2.2.2.2.2.2)
  exact ⟨rfl, by rw [ht]; exact hR.2.1, hR.2.2.F ht⟩
end DY2
