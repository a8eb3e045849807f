/-! level 3: the law from its entry -/
theorem wN_RL_7 : Cond.classLink RL 7 RX11 ∈ gw ∧ Cond.instantiable RX11 17 ∈ gw ∧ Cond.initialized RX11 ∈ gw := ⟨gt_1 (i := 22) (by decide +kernel) rfl, gt_1 (i := 23) (by decide +kernel) rfl, gt_1 (i := 1) (by decide +kernel) rfl⟩
theorem wN_RL_10 : Cond.classLink RL 10 RX12 ∈ gw ∧ Cond.instantiable RX12 111 ∈ gw ∧ Cond.initialized RX12 ∈ gw := ⟨gt_6 (i := 10) (by decide +kernel) rfl, gt_6 (i := 11) (by decide +kernel) rfl, gt_1 (i := 17) (by decide +kernel) rfl⟩
theorem wK_RL_9 : Cond.methodLink RL 9 yX11_init ∈ gw := gt_1 (i := 24) (by decide +kernel) rfl
theorem wK_RL_12 : Cond.methodLink RL 12 yX12_init ∈ gw := gt_6 (i := 12) (by decide +kernel) rfl
theorem yi_X11_init : ho_y yX11_init cX11_init 2 none 0 ∧ Cond.instanceMethod yX11_init ∈ gw := ⟨⟨gt_1 (i := 26) rfl rfl, gt_1 (i := 1) (by decide +kernel) rfl, by decide +kernel⟩, gt_1 (i := 25) (by decide +kernel) rfl⟩
theorem yi_X12_init : ho_y yX12_init cX12_init 1 none 0 ∧ Cond.instanceMethod yX12_init ∈ gw := ⟨⟨gt_6 (i := 14) rfl rfl, gt_1 (i := 17) (by decide +kernel) rfl, by decide +kernel⟩, gt_6 (i := 13) (by decide +kernel) rfl⟩
theorem some_get {o : Option Dp} {z : Dp} (h : o.isSome = true) : o = some (o.getD z) := by
  cases o with
  | none => cases h
  | some x => rfl
theorem rH_eq : f_X11_init 0 1 (dD0 11) = some rH := some_get rH_some
theorem rM_eq : f_X12_init 0 1 (dD0 12) = some rM := some_get rM_some
set_option maxRecDepth 100000 in
theorem rH_1 : Nat.beq rH.1 236 = true := by decide +kernel
section ZW
variable {p : Program} {l : Launch} {e : Env} {R : Room} {s : State} {m : MethodId} {args : Array Value} {below : List Frame} {meth : Method} {c : Code} {H : Heap} {locs : List Loc} {Q : State → Prop} {cells slots : Nat}
variable {Bx ci idx N : Nat} {Cn : String} {T : u_T} {ty : Nat → FieldType} {E : Ev} {own : String} {cc : ByteArray} {nL : Nat} {ret : Option FieldType} {pc : Nat} {ls : Array Slot} {rest : List Value}
theorem lw_new (C : ho_I p s m args meth c own cc nL ret) (F : ho_F ci Cn T ty N) (hw : Cond.classLink own idx Cn ∈ gw ∧ Cond.instantiable Cn N ∈ gw ∧ Cond.initialized Cn ∈ gw) (hN : dnf.getD ci 0 = N) (hdf : ∀ j, j < N → defaultValue (ty j) = if dy_k ci j = 0 then .int 0 else if dy_k ci j = 1 then .long 0 else .null) (hK : va_K E.1 vwCl (ho_t E) s) (hh : H.size = Bx) (hcells : cells + 1 ≤ R.cells) (hslots : slots + N ≤ R.slots) (hdg : decode cc pc = .ok (.new idx, 3))
    (kk : ∀ (H1 : Heap), va_P E.1 vwCl (dy_w Bx E (dD0 ci)) H1 → H1.size = Bx + 1 → (∀ x : Nat, x < Bx → H1[x]? = H[x]?) → W p l e R s m args below meth c H1 locs (cells + 1) (slots + N) Q (F0 m (pc + 3) ls (.ref Bx :: rest))) : W p l e R s m args below meth c H locs cells slots Q (F0 m pc ls rest) := by
  obtain ⟨hx, hb, -, -, hown, hts, -⟩ := C
  have hKn := hK.1 ci _ F.1
  refine W.newcK hx hb hown (hts _ hw.1) (hts _ hw.2.1) (hts _ hw.2.2) rfl hdg hcells hslots hKn.2.1 hh fun H1 kC hkC e2 z1 o1 => ?_
  refine kk H1 (fun j q hq => ?_) z1 o1
  obtain ⟨hj, rfl⟩ := dy_ix hq
  have ej : j = 0 := by
    have : j < 1 := hj
    omega
  subst ej
  rw [dy_c1 (show (dD0 ci).2.1 0 = (1, ci) from rfl)]
  refine ⟨_, F.1, (u_born ty hts F.2.1 hKn hkC e2 F.2.2.1).to (fun j hj2 => ?_)⟩
  unfold vp_V
  rw [List.getD_eq_getElem?_getD, List.getElem?_map, List.getElem?_range (by rw [hN]; exact hj2), hdf j hj2]
  rfl
theorem lw_ctor {y : MethodName} {by2 : ByteArray} {mL d2 mc ms : Nat} {ak av : Nat → Nat} {D r : Dp} (C : ho_I p s m args meth c own cc nL ret) (hM : dy_M l Bx E ak av y by2 mL d2 mc ms [.ref (Bx + 0)] 1 D r) (hy : ho_y y by2 mL none 0) (hin : Cond.instanceMethod y ∈ gw) (hlk : Cond.methodLink own idx y ∈ gw) (hi : y.name = "<init>") (hsz : ls.size = nL) (hst : (rest.map fun v => v.category).sum ≤ 8) (hroom : d2 + 1 ≤ R.frames ∧ 8 + (mL + 11) + 64 * d2 ≤ R.locals) (hK : va_K E.1 vwCl (ho_t E) s) (hX : dy_X Bx ak av s) (hP : va_P E.1 vwCl (dy_w Bx E D) H) (hz : H.size = Bx + 1) (hold : ∀ x : Nat, x < s.heap.size → ¬ Bx ≤ x → H[x]? = s.heap[x]?) (hf : cells + mc ≤ R.cells ∧ slots + ms ≤ R.slots) (hdg : decode cc pc = .ok (.invokespecial idx, 3))
    (kk : ∀ (H1 : Heap) (L : List Loc), va_P E.1 vwCl (dy_w Bx E r) H1 → H.size ≤ H1.size → (∀ x : Nat, x < H.size → ¬ Bx ≤ x → H1[x]? = H[x]?) → (∀ q ∈ L, Bx ≤ q.base) → W p l e R s m args below meth c H1 (locs ++ L) (cells + mc) (slots + ms) Q (F0 m (pc + 3) ls rest)) : W p l e R s m args below meth c H locs cells slots Q (F0 m pc ls (.ref Bx :: rest)) := by
  have hp : PreS s H (va_Pc [.ref (Bx + 0)] (dy_pc Bx E ak av 1 D)) [.ref (Bx + 0)] := by
    refine ⟨fun x U g mk q => ?_, fun U hU hW => ?_⟩
    · obtain ⟨q0, q1, qP, qK, qX⟩ := q
      exact ⟨q0, q1, qP, va_K.moved (u := U) (U := U.calling g mk x) (Vm.Alike.refl U.vm) qK, dy_X_same (u := U) (U := U.calling g mk x) rfl rfl qX⟩
    · exact ⟨rfl, by rw [hU]; exact hz, by rw [hU]; exact hP, va_K.moved hW.alike hK, dy_X_warm hW (fun x h1 h2 => by rw [hU]; exact hold x h1 h2) hX⟩
  obtain ⟨hx, hbc, hml, -, hown, hts, -⟩ := C
  obtain ⟨hcd, hini, hd1⟩ := hy
  have hr := va_runI (e := e) (below := below) (meth := meth) (R := R) (locs := locs) (cells := cells) (slots := slots) (As := []) (rest := rest) ⟨hx, hbc, hml, hown, hts⟩ hM (cwI 0 hts (ho_good hcd) rfl rfl rfl (hts _ hini) (hts _ hlk) (hts _ hin) hi hd1 hroom) hp rfl rfl hsz rfl (lv_room hst) hdg hf
  intro Ts hT X
  obtain ⟨v, st₀, t, T', L, h0, X', hL, e1, e2, ⟨hv, hP1, hz1, hk⟩, st⟩ := hr Ts hT X
  cases hv
  rw [h0] at hz1 hk
  obtain ⟨t2, a1, b1⟩ := kk T'.heap L (by rw [e1]; exact hP1) (by rw [e1]; exact hz1) (fun x h1 h2 => by rw [e1]; exact hk x h1 h2) hL T' rfl X'
  exact ⟨t2, st t2 a1, b1⟩
end ZW
