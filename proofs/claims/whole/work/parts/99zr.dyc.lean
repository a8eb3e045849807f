/-! level 3: more rows: arrays of references, stores into rows, calls of constructors -/
def dyM (D : Dp) (N K : Nat) : Dp := (D.1 + 1 + N, fun b => if b < D.1 then D.2.1 b else if b = D.1 then (8, N) else (4, K), fun b => if b < D.1 then D.2.2.1 b else fun _ => 0, fun b => if b < D.1 then D.2.2.2.1 b else fun _ => 0, fun b => if b < D.1 then D.2.2.2.2 b else if b = D.1 then (fun i => if i < N then some (D.1 + 1 + i) else none) else fun _ => none)
theorem dy_cM {B : Nat} {E : Ev} {D : Dp} {N K b : Nat} (hb : b < D.1) : dy_c B E (dyM D N K) b = dy_c B E D b := by
  have e1 : (dyM D N K).2.1 b = D.2.1 b := if_pos hb
  have e2 : (dyM D N K).2.2.1 b = D.2.2.1 b := if_pos hb
  have e3 : (dyM D N K).2.2.2.1 b = D.2.2.2.1 b := if_pos hb
  have e4 : (dyM D N K).2.2.2.2 b = D.2.2.2.2 b := if_pos hb
  have ev : ∀ c, dy_v B (dyM D N K) b c = dy_v B D b c := fun c => by
    funext k
    unfold dy_v
    rw [e2, e3, e4]
  unfold dy_c
  rw [e1, e2, e3, e4, ev]
theorem vr_outQ (c : ClassId) (N h0 : Nat) : ∀ i : Nat, Jvm.Free.Multi.outerC c N h0 i = arrV c N (fun j => va_rf (if j < i then some (h0 + 1 + j) else none))
  | 0 => by
    show ({ cls := c, slots := Array.replicate N .null, vm := .none } : Cell) = _
    rw [arrV_new]
    refine congrArg (arrV c N) (funext fun j => ?_)
    simp [va_rf]
  | i + 1 => by
    show (Jvm.Free.Multi.outerC c N h0 i).setSlot i (.ref (h0 + 1 + i)) = _
    rw [vr_outQ c N h0 i, arrV_store]
    refine congrArg (arrV c N) (funext fun j => ?_)
    by_cases e : j = i
    · subst e
      simp [updV, va_rf]
    · by_cases h : j < i
      · simp [updV, e, h, Nat.lt_succ_of_lt h]
      · simp [updV, e, h, show ¬ j < i + 1 by omega]
theorem dr_oM {D D' : Dp} {a t c N K : Nat} (h : a < D.1 ∧ D.2.1 a = (t, c)) (e : D' = dyM D N K) : a < D'.1 ∧ D'.2.1 a = (t, c) := by
  subst e
  refine ⟨?_, ?_⟩
  · show a < D.1 + 1 + N
    omega
  · show (if a < D.1 then D.2.1 a else _) = _
    rw [if_pos h.1]
    exact h.2
theorem dy_X_same {B : Nat} {ak av : Nat → Nat} {u U : State} (hv : u.vm = U.vm) (hh : U.heap = u.heap) (h : dy_X B ak av u) : dy_X B ak av U := by
  obtain ⟨h1, h2, h3, h4, h5, h6, h7⟩ := h
  have ha : u.vm.Alike U.vm := by rw [← hv]; exact Vm.Alike.refl _
  exact ⟨fun q hq => va_Nw.same rfl hv (h1 q hq), over_moved ha h2, va_AO.moved ha h3, vk_R.same hv.symm h4, by rw [hh]; exact vk_S.moved ha h5, by rw [hh]; exact va_Z.moved ha h6, by rw [hh]; exact h7.elim (fun z => Or.inl (va_Z.moved ha z)) (fun ⟨t, z⟩ => Or.inr ⟨t, va_Z.moved ha z⟩)⟩
theorem dy_X_warm {B : Nat} {ak av : Nat → Nat} {s U : State} (hW : s.WarmedH U.vm) (hk : ∀ a : Nat, a < s.heap.size → ¬ B ≤ a → U.heap[a]? = s.heap[a]?) (h : dy_X B ak av s) : dy_X B ak av U := by
  obtain ⟨h1, h2, h3, h4, h5, h6, h7⟩ := h
  exact ⟨fun q hq => va_Nw.warmM hW (h1 q hq), over_moved hW.alike h2, va_AO.moved hW.alike h3, vk_R.warm hW h4, (vk_S.moved hW.alike h5).kept hk, (va_Z.moved hW.alike h6).kept hk, h7.elim (fun z => Or.inl ((va_Z.moved hW.alike z).kept hk)) (fun ⟨t, z⟩ => Or.inr ⟨t, (va_Z.moved hW.alike z).kept hk⟩)⟩
section DY3
variable {p : Program} {l : Launch} {e : Env} {R : Room} {s : State} {m : MethodId} {args : Array Value} {below : List Frame} {meth : Method} {c : Code} {H H0 : Heap} {locs : List Loc} {Q : State → Prop} {cells slots : Nat}
variable {B n : Nat} {E : Ev} {D D' r : Dp} {ak av : Nat → Nat} {own : String} {cc : ByteArray} {nL : Nat} {ret : Option FieldType} {pc : Nat} {ls : Array Slot} {rest : List Value}
variable {a ci k idx N K k0 : Nat} {Cn : String} {T : u_T} {ty : Nat → FieldType} {fin : Bool}
theorem dr_newq {nn : Int32} (I : dy_I p s m args meth c own cc nL B n ak av) (hcl : Cond.classLink own idx "EmptyHat$State" ∈ gw) (hn : ¬ nn < 0) (hN : nn.toNatClampNeg = N) (hby : N * 4 ≤ 536870912) (hR : dy_R B E s s.heap H locs D) (hc : D.1 = k0) (hk : k0 = n + cells) (h0 : 0 < D.1) (e1 : D' = dyN D 7 N) (hcells : cells + 1 ≤ R.cells) (hslots : slots + N ≤ R.slots) (hdg : decode cc pc = .ok (.anewarray idx, 3))
    (kk : ∀ (H1 : Heap), dy_R B E s s.heap H1 locs D' → W p l e R s m args below meth c H1 locs (cells + 1) (slots + N) Q (F0 m (pc + 3) ls (.ref (B + k0) :: rest))) : W p l e R s m args below meth c H locs cells slots Q (F0 m pc ls (.int nn :: rest)) := by
  refine dy_bd (fun hbd => ?_)
  have hh := dr_sz I hR hc hk h0 hbd
  have hA := dy_A I
  have hX := I.2.2.1
  obtain ⟨⟨hx, hb, -, -, hown, hts, -⟩, -, -, -⟩ := I
  obtain ⟨hK, hP, hS⟩ := hR
  subst hN
  refine W.anew hx hb hown (hts _ hcl) (va_AO.use hX.2.2.1) rfl hdg rfl hn hby hcells hslots fun cA kA comp f1 f2 f3 f4 => ?_
  subst e1
  have hcA : cA = E.2.2 5 := by
    have h : va_RA s (E.2.2 5) (.object "EmptyHat$State") := (hK.2 5 _ rfl).2
    obtain ⟨kA', comp', g1, g2, g3, g4⟩ := h
    exact Option.some.inj (f1.symm.trans g4)
  subst hcA
  have key : ∀ H1 : Heap, H1[H.size]? = some (arrV (E.2.2 5) nn.toNatClampNeg (fun _ => .null)) → H1.size = H.size + 1 → (∀ q : Nat, q < H.size → H1[q]? = H[q]?) → dy_R B E s s.heap H1 locs (dyN D 7 nn.toNatClampNeg) := by
    intro H1 e2 z1 o1
    refine ⟨hK, fun j q hq => ?_, ⟨by rw [z1]; exact Nat.le_trans hS.1 (Nat.le_succ _), fun x h1 h2 => (o1 x (Nat.lt_of_lt_of_le h1 hS.1)).trans (hS.2.1 x h1 h2), hS.2.2⟩⟩
    obtain ⟨hj, rfl⟩ := dy_ix hq
    by_cases ej : j = D.1
    · subst ej
      rw [dr_cN.2.2.2.2.2 rfl, hc, ← hh]
      show H1[H.size]? = some (vp_cell _ _)
      rw [e2]
      rfl
    · have hjl : j < D.1 := by
        have : j < D.1 + 1 := hj
        omega
      rw [dy_cN j ej]
      have he := dy_at (B := B) (E := E) hjl
      exact (hP _ _ he).kept (o1 _ ((hP _ _ he).lt))
  refine W.eq (g2 := F0 m (pc + 3) ls (.ref (B + k0) :: rest)) (by rw [hh]) (kk _ (key _ ?_ ?_ ?_))
  · rw [Array.getElem?_push_size, ← arrV_new]
  · rw [Array.size_push]
  · intro q hq
    rw [Array.getElem?_push, if_neg (Nat.ne_of_lt hq)]
theorem dr_mna {nn kk' : Int32} (I : dy_I p s m args meth c own cc nL B n ak av) (hcl : Cond.classLink own idx "[[I" ∈ gw) (harr : Cond.arrayClass .int ∈ gw) (hn : ¬ nn < 0) (hk' : ¬ kk' < 0) (hN : nn.toNatClampNeg = N) (hM : kk'.toNatClampNeg = K) (hb1 : N * 4 ≤ 536870912) (hb2 : K * 4 ≤ 536870912) (hb3 : K ≤ 536870912) (hR : dy_R B E s s.heap H locs D) (hc : D.1 = k0) (hk : k0 = n + cells) (h0 : 0 < D.1) (e1 : D' = dyM D N K) (hcells : cells + (1 + N) ≤ R.cells) (hslots : slots + (N + N * K) ≤ R.slots) (hdg : decode cc pc = .ok (.multianewarray idx 2, 4))
    (kk : ∀ (H1 : Heap), dy_R B E s s.heap H1 locs D' → W p l e R s m args below meth c H1 locs (cells + 1 + N) (slots + N + N * K) Q (F0 m (pc + 4) ls (.ref (B + k0) :: rest))) : W p l e R s m args below meth c H locs cells slots Q (F0 m pc ls (.int kk' :: .int nn :: rest)) := by
  refine dy_bd (fun hbd => ?_)
  have hh := dr_sz I hR hc hk h0 hbd
  have hX := I.2.2.1
  obtain ⟨⟨hx, hb, -, -, hown, hts, -⟩, -, -, -⟩ := I
  obtain ⟨hK, hP, hS⟩ := hR
  subst hN
  subst hM
  subst e1
  intro Ts hT Xs
  obtain ⟨vm₁, cA, comp, -, fA, fC, hO, -, X', step⟩ := Xs.multianewarray2F (ty := .int) hx hown (hts _ hcl) hX.2.1 (hts _ harr) (g := F0 m pc ls (.int kk' :: .int nn :: rest)) rfl (by rw [hb]; exact hdg) rfl hn hk' hb1 hb2 hb3 rfl rfl hcells hslots
  have ecA : cA = E.2.2 6 := by
    have h : va_RA s (E.2.2 6) (.array .int) := (hK.2 6 _ rfl).2
    exact Option.some.inj (fA.symm.trans h)
  have ecy : comp = E.2.2 2 := by
    have h : va_RA s (E.2.2 2) .int := (hK.2 2 _ rfl).2
    exact Option.some.inj (fC.symm.trans h)
  subst ecA
  subst ecy
  generalize hF : Jvm.Free.Multi.fill (Ts.setVm vm₁) (E.2.2 6) (E.2.2 2) nn.toNatClampNeg kk'.toNatClampNeg (defaultValue .int) nn.toNatClampNeg = F at X' step
  have hTh : (Ts.setVm vm₁).heap = H := hT
  obtain ⟨f1, f2, -, -⟩ := Jvm.Free.Multi.fill_facts (Ts.setVm vm₁) (E.2.2 6) (E.2.2 2) nn.toNatClampNeg kk'.toNatClampNeg (defaultValue .int) nn.toNatClampNeg
  rw [hF, hTh] at f1 f2
  have hold : ∀ x : Nat, x < H.size → F.heap[x]? = H[x]? := fun x hx => by
    have := Jvm.Free.Multi.fill_old (Ts.setVm vm₁) (E.2.2 6) (E.2.2 2) nn.toNatClampNeg kk'.toNatClampNeg (defaultValue .int) (a := x) (by rw [hTh]; exact hx) nn.toNatClampNeg
    rw [hF, hTh] at this
    exact this
  have hrow : ∀ j : Nat, j < nn.toNatClampNeg → F.heap[H.size + 1 + j]? = some (vp_cell (E.2.2 2) (kk'.toNatClampNeg, .inl (fun _ => 0))) := fun j hj => by
    have := Jvm.Free.Multi.fill_inner (Ts.setVm vm₁) (E.2.2 6) (E.2.2 2) nn.toNatClampNeg kk'.toNatClampNeg (defaultValue .int) nn.toNatClampNeg j hj
    rw [hF, hTh] at this
    rw [this, vp_cell_i, ← arrV_new]
    rfl
  have hR' : dy_R B E s s.heap F.heap locs (dyM D nn.toNatClampNeg kk'.toNatClampNeg) := by
    refine ⟨hK, fun j q hq => ?_, ⟨by rw [f1]; have := hS.1; omega, fun x h1 h2 => (hold x (Nat.lt_of_lt_of_le h1 hS.1)).trans (hS.2.1 x h1 h2), hS.2.2⟩⟩
    obtain ⟨hj, rfl⟩ := dy_ix hq
    have hj' : j < D.1 + 1 + nn.toNatClampNeg := hj
    by_cases e1 : j < D.1
    · rw [dy_cM e1]
      have he := dy_at (B := B) (E := E) e1
      exact (hP _ _ he).kept (hold _ ((hP _ _ he).lt))
    · by_cases e2 : j = D.1
      · subst e2
        have hs : (dyM D nn.toNatClampNeg kk'.toNatClampNeg).2.1 D.1 = (8, nn.toNatClampNeg) := (if_neg (Nat.lt_irrefl _)).trans (if_pos rfl)
        have e4 : (dyM D nn.toNatClampNeg kk'.toNatClampNeg).2.2.2.2 D.1 = (fun i => if i < nn.toNatClampNeg then some (D.1 + 1 + i) else none) := (if_neg (Nat.lt_irrefl _)).trans (if_pos rfl)
        rw [(dy_cA (B := B) (E := E) hs).2.2.2.2.2.2 rfl, e4, hc, ← hh]
        show F.heap[H.size]? = some (vp_cell _ _)
        rw [f2, vp_cell_q, vr_outQ]
        refine congrArg (fun z => some (arrV (E.2.2 6) nn.toNatClampNeg z)) (funext fun i => ?_)
        by_cases hi : i < nn.toNatClampNeg
        · rw [if_pos hi]
          dsimp only
          rw [if_pos hi]
          show va_rf (some (H.size + 1 + i)) = va_rf (some (B + (k0 + 1 + i)))
          rw [hh, show B + k0 + 1 + i = B + (k0 + 1 + i) by omega]
        · rw [if_neg hi]
          dsimp only
          rw [if_neg hi]
          rfl
      · obtain ⟨i, rfl⟩ : ∃ i, j = D.1 + 1 + i := ⟨j - (D.1 + 1), by omega⟩
        have hs : (dyM D nn.toNatClampNeg kk'.toNatClampNeg).2.1 (D.1 + 1 + i) = (4, kk'.toNatClampNeg) := (if_neg e1).trans (if_neg e2)
        have e4 : (dyM D nn.toNatClampNeg kk'.toNatClampNeg).2.2.1 (D.1 + 1 + i) = (fun _ => 0) := if_neg e1
        rw [(dy_cA (B := B) (E := E) hs).2.2.1 rfl, e4]
        show F.heap[B + (D.1 + 1 + i)]? = some (vp_cell _ _)
        rw [show B + (D.1 + 1 + i) = H.size + 1 + i by omega]
        exact hrow i (by omega)
  obtain ⟨t, a1, b1⟩ := kk F.heap hR' F rfl X'
  refine ⟨t, step t ?_, b1⟩
  have e9 : Ts.heap.size = B + k0 := by rw [hT]; exact hh
  rw [e9]
  exact a1
theorem dr_cst {i x : Int32} (I : dy_I p s m args meth c own cc nL B n ak av) (hR : dy_R B E s s.heap H locs D) (ha : a < D.1 ∧ D.2.1 a = (3, N)) (hin : vp_in i N) (e1 : D' = dyI D a i.toNatClampNeg (vp_nar .char x)) (hdg : decode cc pc = .ok (.castore, 1))
    (kk : ∀ (H1 : Heap) (locs1 : List Loc), dy_R B E s s.heap H1 locs1 D' → W p l e R s m args below meth c H1 locs1 cells slots Q (F0 m (pc + 1) ls rest)) : W p l e R s m args below meth c H locs cells slots Q (F0 m pc ls (.int x :: .int i :: .ref (B + a) :: rest)) := by
  subst e1
  obtain ⟨⟨hx, hb, -, -, hown, hts, -⟩, -⟩ := I
  obtain ⟨hK, hP, hS⟩ := hR
  have he := dy_at (B := B) (E := E) ha.1
  have hs : (dyI D a i.toNatClampNeg (vp_nar .char x)).2.1 a = (3, N) := ha.2
  have eu : (dyI D a i.toNatClampNeg (vp_nar .char x)).2.2.1 a = upd (D.2.2.1 a) i.toNatClampNeg (vp_nar .char x) := if_pos rfl
  rw [(dy_cA (B := B) (E := E) ha.2).2.1 rfl] at he
  refine va_cast hx hb hK hP (dy_D B E D) hS a 1 he rfl hin hdg (fun H1 locs1 hP1 _ hS1 => kk H1 locs1 ⟨hK, ?_, hS1⟩)
  have e2 := (dy_cA (B := B) (E := E) hs).2.1 rfl
  rw [eu] at e2
  rw [← e2, dy_set (D' := dyI D a i.toNatClampNeg (vp_nar .char x)) ha.1 rfl dy_cI] at hP1
  exact hP1
theorem dr_ist {i x : Int32} (I : dy_I p s m args meth c own cc nL B n ak av) (hR : dy_R B E s s.heap H locs D) (ha : a < D.1 ∧ D.2.1 a = (4, N)) (hin : vp_in i N) (e1 : D' = dyI D a i.toNatClampNeg x) (hdg : decode cc pc = .ok (.iastore, 1))
    (kk : ∀ (H1 : Heap) (locs1 : List Loc), dy_R B E s s.heap H1 locs1 D' → W p l e R s m args below meth c H1 locs1 cells slots Q (F0 m (pc + 1) ls rest)) : W p l e R s m args below meth c H locs cells slots Q (F0 m pc ls (.int x :: .int i :: .ref (B + a) :: rest)) := by
  subst e1
  obtain ⟨⟨hx, hb, -, -, hown, hts, -⟩, -⟩ := I
  obtain ⟨hK, hP, hS⟩ := hR
  have he := dy_at (B := B) (E := E) ha.1
  have hs : (dyI D a i.toNatClampNeg x).2.1 a = (4, N) := ha.2
  have eu : (dyI D a i.toNatClampNeg x).2.2.1 a = upd (D.2.2.1 a) i.toNatClampNeg x := if_pos rfl
  rw [(dy_cA (B := B) (E := E) ha.2).2.2.1 rfl] at he
  refine va_iast hx hb hK hP (dy_D B E D) hS a 2 he rfl hin hdg (fun H1 locs1 hP1 _ hS1 => kk H1 locs1 ⟨hK, ?_, hS1⟩)
  have e2 := (dy_cA (B := B) (E := E) hs).2.2.1 rfl
  rw [eu] at e2
  rw [← e2, dy_set (D' := dyI D a i.toNatClampNeg x) ha.1 rfl dy_cI] at hP1
  exact hP1
theorem dr_ild {i : Int32} (I : dy_I p s m args meth c own cc nL B n ak av) (hR : dy_R B E s s.heap H locs D) (ha : a < D.1 ∧ D.2.1 a = (4, N)) (hin : vp_in i N) (hdg : decode cc pc = .ok (.iaload, 1))
    (kk : W p l e R s m args below meth c H locs cells slots Q (F0 m (pc + 1) ls (.int (D.2.2.1 a i.toNatClampNeg) :: rest))) : W p l e R s m args below meth c H locs cells slots Q (F0 m pc ls (.int i :: .ref (B + a) :: rest)) := by
  obtain ⟨⟨hx, hb, -, -, hown, hts, -⟩, -⟩ := I
  obtain ⟨hK, hP, hS⟩ := hR
  have he := dy_at (B := B) (E := E) ha.1
  rw [(dy_cA (B := B) (E := E) ha.2).2.2.1 rfl] at he
  exact va_iald hx hb hK hP a 2 he rfl hin hdg kk
theorem dr_ast {i : Int32} {x : Nat} (I : dy_I p s m args meth c own cc nL B n ak av) (hR : dy_R B E s s.heap H locs D) (ha : a < D.1 ∧ D.2.1 a = (7, N)) (hxx : x < D.1 ∧ D.2.1 x = (1, 9)) (hin : vp_in i N) (e1 : D' = dyP D a i.toNatClampNeg x) (hdg : decode cc pc = .ok (.aastore, 1))
    (kk : ∀ (H1 : Heap) (locs1 : List Loc), dy_R B E s s.heap H1 locs1 D' → W p l e R s m args below meth c H1 locs1 cells slots Q (F0 m (pc + 1) ls rest)) : W p l e R s m args below meth c H locs cells slots Q (F0 m pc ls (.ref (B + x) :: .int i :: .ref (B + a) :: rest)) := by
  subst e1
  obtain ⟨⟨hx, hb, -, -, hown, hts, -⟩, -⟩ := I
  obtain ⟨hK, hP, hS⟩ := hR
  have he := dy_at (B := B) (E := E) ha.1
  have hv := dy_at (B := B) (E := E) hxx.1
  have hs : (dyP D a i.toNatClampNeg x).2.1 a = (7, N) := ha.2
  have eu : (dyP D a i.toNatClampNeg x).2.2.2.2 a = va_up (D.2.2.2.2 a) i.toNatClampNeg (some x) := if_pos rfl
  rw [(dy_cA (B := B) (E := E) ha.2).2.2.2.2.2.1 rfl] at he
  rw [dy_c1 hxx.2] at hv
  refine va_astq hx hb hK hP (dy_D B E D) hS a 5 x 9 he rfl hv rfl hin hdg (fun H1 locs1 hP1 _ hS1 => kk H1 locs1 ⟨hK, ?_, hS1⟩)
  have e2 := (dy_cA (B := B) (E := E) hs).2.2.2.2.2.1 rfl
  rw [eu] at e2
  have e3 : (fun j => (va_up (D.2.2.2.2 a) i.toNatClampNeg (some x) j).map (fun y => B + y)) = va_up (fun j => (D.2.2.2.2 a j).map (fun y => B + y)) i.toNatClampNeg (some (B + x)) := by
    funext j
    unfold va_up
    by_cases ej : j = i.toNatClampNeg
    · rw [if_pos ej, if_pos ej]; rfl
    · rw [if_neg ej, if_neg ej]
  rw [e3] at e2
  rw [← e2, dy_set (D' := dyP D a i.toNatClampNeg x) ha.1 rfl dy_cP] at hP1
  exact hP1
theorem dr_call {mc ms : Nat} {x : Array Value} {st0 : List Value} (hr : va_Run p l e R s m args below meth c H locs cells slots mc ms (F0 m pc ls st0) rest (dy_Q B E r x) (fun q : Nat => B ≤ q)) (hR : dy_R B E s s.heap H locs D)
    (kk : ∀ (H1 : Heap) (locs1 : List Loc), dy_R B E s s.heap H1 locs1 r → W p l e R s m args below meth c H1 locs1 (cells + mc) (slots + ms) Q (F0 m (pc + 3) ls rest)) : W p l e R s m args below meth c H locs cells slots Q (F0 m pc ls st0) := by
  obtain ⟨hK, hP, hS⟩ := hR
  intro Ts hT X
  obtain ⟨v, st₀, t, T', L, h0, X', hL, e1, e2, ⟨hv, hP1, hz, hk⟩, st⟩ := hr Ts hT X
  cases hv
  rw [h0] at hz hk
  obtain ⟨t2, a1, b1⟩ := kk T'.heap (locs ++ L) ⟨hK, by rw [e1]; exact hP1, ⟨Nat.le_trans hS.1 (by rw [e1]; exact hz), fun q h1 h2 => by rw [e1, hk q (Nat.lt_of_lt_of_le h1 hS.1) h2]; exact hS.2.1 q h1 h2, fun q hq => by
      rcases List.mem_append.mp hq with h | h
      · exact hS.2.2 q h
      · exact hL q h⟩⟩ T' rfl X'
  exact ⟨t2, st t2 a1, b1⟩
theorem dr_pre (I : dy_I p s m args meth c own cc nL B n ak av) (hR : dy_R B E s s.heap H locs D) (hh : H.size = B + k0) (as : List Value) : PreS s H (va_Pc as (dy_pc B E ak av k0 D)) as := by
  refine ⟨fun x U g mk q => ?_, fun U hU hW => ?_⟩
  · obtain ⟨q0, q1, qP, qK, qX⟩ := q
    exact ⟨q0, q1, qP, va_K.moved (u := U) (U := U.calling g mk x) (Vm.Alike.refl U.vm) qK, dy_X_same (u := U) (U := U.calling g mk x) rfl rfl qX⟩
  · obtain ⟨hK, hP, hS⟩ := hR
    exact ⟨rfl, by rw [hU]; exact hh, by rw [hU]; exact hP, va_K.moved hW.alike hK, dy_X_warm hW (fun x h1 h2 => by rw [hU]; exact hS.2.1 x h1 h2) I.2.2.1⟩
theorem dr_callI {y : MethodName} {by2 : ByteArray} {mL nA d d2 mc ms MC MS b : Nat} {As st0 : List Value} (I : dy_I p s m args meth c own cc nL B n ak av) (hM : dy_M l B E ak av y by2 mL d2 mc ms (.ref (B + b) :: As) k0 D r) (hy : ho_y y by2 mL none nA) (hin : Cond.instanceMethod y ∈ gw) (hlk : Cond.methodLink own idx y ∈ gw) (hi : y.name = "<init>") (hn : As.length = nA) (hs0 : st0 = As.reverse ++ .ref (B + b) :: rest)
    (hsz : ls.size = nL) (hst : (rest.map fun v => v.category).sum ≤ 8) (hd : d2 + 1 ≤ d) (hmL : mL ≤ 45) (hR : dy_R B E s s.heap H locs D) (hc : D.1 = k0) (hk : k0 = n + cells) (h0 : 0 < D.1) (hf : cells + mc ≤ MC ∧ slots + ms ≤ MS) (hdg : decode cc pc = .ok (.invokespecial idx, 3))
    (kk : ∀ (H1 : Heap) (locs1 : List Loc), dy_R B E s s.heap H1 locs1 r → W p l e (dy_rm d MC MS) s m args below meth c H1 locs1 (cells + mc) (slots + ms) Q (F0 m (pc + 3) ls rest)) : W p l e (dy_rm d MC MS) s m args below meth c H locs cells slots Q (F0 m pc ls st0) := by
  subst hs0
  refine dy_bd (fun hbd => ?_)
  have hh := dr_sz I hR hc hk h0 hbd
  have hp := dr_pre I hR hh (.ref (B + b) :: As)
  obtain ⟨⟨hx, hbc, hml, -, hown, hts, -⟩, -⟩ := I
  obtain ⟨hcd, hini, hd1⟩ := hy
  have hroom : (dy_rm d2 mc ms).frames + 1 ≤ (dy_rm d MC MS).frames ∧ 8 + (mL + 11) + (dy_rm d2 mc ms).locals ≤ (dy_rm d MC MS).locals := ⟨hd, by show 8 + (mL + 11) + 64 * d2 ≤ 64 * d; omega⟩
  exact dr_call (va_runI (As := As) (rest := rest) ⟨hx, hbc, hml, hown, hts⟩ hM (cwI nA hts (ho_good hcd) rfl rfl rfl (hts _ hini) (hts _ hlk) (hts _ hin) hi hd1 hroom) hp rfl hn hsz rfl (lv_room hst) hdg hf) hR kk
theorem dr_callN {y : MethodName} {by2 : ByteArray} {mL nA d d2 mc ms MC MS b : Nat} {As st0 : List Value} (I : dy_I p s m args meth c own cc nL B n ak av) (hM : dy_M l B E ak av y by2 mL d2 mc ms (.ref (B + b) :: As) k0 D r) (hy : ho_y y by2 mL none nA) (hin : Cond.instanceMethod y ∈ gw) (hlk : (own, idx, y) ∈ nwL) (hi : y.name = "<init>") (hn : As.length = nA) (hs0 : st0 = As.reverse ++ .ref (B + b) :: rest)
    (hsz : ls.size = nL) (hst : (rest.map fun v => v.category).sum ≤ 8) (hd : d2 + 1 ≤ d) (hmL : mL ≤ 45) (hR : dy_R B E s s.heap H locs D) (hc : D.1 = k0) (hk : k0 = n + cells) (h0 : 0 < D.1) (hf : cells + mc ≤ MC ∧ slots + ms ≤ MS) (hdg : decode cc pc = .ok (.invokespecial idx, 3))
    (kk : ∀ (H1 : Heap) (locs1 : List Loc), dy_R B E s s.heap H1 locs1 r → W p l e (dy_rm d MC MS) s m args below meth c H1 locs1 (cells + mc) (slots + ms) Q (F0 m (pc + 3) ls rest)) : W p l e (dy_rm d MC MS) s m args below meth c H locs cells slots Q (F0 m pc ls st0) := by
  subst hs0
  refine dy_bd (fun hbd => ?_)
  have hh := dr_sz I hR hc hk h0 hbd
  have hp := dr_pre I hR hh (.ref (B + b) :: As)
  have hX := I.2.2.1
  obtain ⟨⟨hx, hbc, hml, -, hown, hts, -⟩, -⟩ := I
  obtain ⟨hcd, hini, hd1⟩ := hy
  have hroom : (dy_rm d2 mc ms).frames + 1 ≤ (dy_rm d MC MS).frames ∧ 8 + (mL + 11) + (dy_rm d2 mc ms).locals ≤ (dy_rm d MC MS).locals := ⟨hd, by show 8 + (mL + 11) + 64 * d2 ≤ 64 * d; omega⟩
  exact dr_call (va_runIN (As := As) (rest := rest) ⟨hx, hbc, hml, hown, hts⟩ hM ⟨va_cnB (host := "EmptyHat") nA hts (ho_good hcd) rfl rfl rfl (hX.1 _ hlk) (hts _ hini) hd1 hroom, hi, hts _ hin⟩ hp rfl hn hsz rfl (lv_room hst) hdg hf) hR kk
end DY3
