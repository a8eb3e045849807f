/-! level 3: the law's walk, and the claim -/
theorem whole_start {p : Program} {e : Env} {s : State} {m : MethodId} {below : List Frame} {meth : Method} {c : Code} (l : Launch) (hflags : l.flags = flags0) {b L : Nat} {xs : Nat → Int32} (hL : L ≤ 3072) (C0 : lw_At p s m meth c b L xs) : W p l e room_1 s m #[Value.ref b] below meth c s.heap [] 0 0 (lw_Z below #[Value.ref b] s) (entryFrame m ([Value.ref b] : List Value).toArray 4) := by
  obtain ⟨hx, hcode, hret, hml, hown, htl, hX, hbl, hlk, hgv⟩ := C0
  have C : ho_I p s m #[Value.ref b] meth c RL cL_law 4 ret := ⟨hx, hcode, hml, hret, hown, fun w hw => htl w (gw_lw hw), hlk⟩
  obtain ⟨E, hK⟩ := zk_all htl
  obtain ⟨ak1, av1, hX1⟩ := zx_all htl hgv (B := s.heap.size) (Nat.le_refl _)
  obtain ⟨ak2, av2, hX2⟩ := zx_all htl hgv (B := s.heap.size + 236) (Nat.le_add_right _ _)
  have hl0 := lv_entry [Value.ref b] (n := 4) (Nat.le_of_ble_eq_true rfl)
  rw [lg_entry_eq]
  have hl : lv_has _ 4 [(0, Value.ref b)] := hl0
  refine lw_new (Bx := s.heap.size) C cf11 wN_RL_7 rfl dfl_11 hK rfl (by decide) (by decide) dL_law_0 (fun H1 hP1 hz1 ho1 => ?_)
  refine lv_dup C.1 C.2.1 dL_law_3 rfl ?_
  refine lw_ctor C (c_X11_init l s.heap.size E ak1 av1 0 1 (dD0 11) rH rH_eq) yi_X11_init.1 yi_X11_init.2 wK_RL_9 rfl hl.1 (Nat.le_of_ble_eq_true rfl) ⟨by decide, by decide⟩ hK hX1 hP1 hz1 (fun x h1 h2 => ho1 x h1) ⟨by decide, by decide⟩ dL_law_4 (fun H2 L2 hP2 hz2 ho2 hL2 => ?_)
  refine lv_astore_n (lv' := [(1, Value.ref s.heap.size), (0, Value.ref b)]) C.1 C.2.1 dL_law_7 rfl hl (by decide) rfl (fun ls hl => ?_)
  refine dy_bd (fun hbd => ?_)
  have e236 : rH.1 = 236 := Nat.eq_of_beq_eq_true rH_1
  have hlo := dy_lt hP2 (by rw [e236]; decide)
  rw [e236] at hlo
  have hs2 : H2.size = s.heap.size + 236 := Nat.le_antisymm hbd hlo
  refine lw_new (Bx := s.heap.size + 236) C cf12 wN_RL_10 rfl dfl_12 hK hs2 (by decide) (by decide) dL_law_8 (fun H3 hP3 hz3 ho3 => ?_)
  refine lv_dup C.1 C.2.1 dL_law_11 rfl ?_
  have old2 : ∀ x : Nat, x < s.heap.size → H2[x]? = s.heap[x]? := fun x hx => (ho2 x (by omega) (by omega)).trans (ho1 x hx)
  have old3 : ∀ x : Nat, x < s.heap.size → H3[x]? = s.heap[x]? := fun x hx => (ho3 x (by omega)).trans (old2 x hx)
  refine lw_ctor C (c_X12_init l (s.heap.size + 236) E ak2 av2 0 1 (dD0 12) rM rM_eq) yi_X12_init.1 yi_X12_init.2 wK_RL_12 rfl hl.1 (Nat.le_of_ble_eq_true rfl) ⟨by decide, by decide⟩ hK hX2 hP3 hz3 (fun x h1 h2 => old3 x h1) ⟨by decide, by decide⟩ dL_law_12 (fun H4 L4 hP4 hz4 ho4 hL4 => ?_)
  refine lv_astore_n (lv' := [(2, Value.ref (s.heap.size + 236)), (1, Value.ref s.heap.size), (0, Value.ref b)]) C.1 C.2.1 dL_law_15 rfl hl (by decide) rfl (fun ls hl => ?_)
  refine lv_iconst (v := (0 : Int32)) C.1 C.2.1 dL_law_16 (by decide) ?_
  refine lv_istore_n (lv' := [(3, Value.int (0 : Int32)), (2, Value.ref (s.heap.size + 236)), (1, Value.ref s.heap.size), (0, Value.ref b)]) C.1 C.2.1 dL_law_17 rfl hl (by decide) rfl (fun ls hl => ?_)
  have oldc : ∀ x : Nat, x < s.heap.size + 236 → H4[x]? = H2[x]? := fun x hx => (ho4 x (by omega) (by omega)).trans (ho3 x hx)
  have hPH : va_P E.1 vwCl (dy_w s.heap.size E rH) H4 := hP2.kept (fun k q hq => oldc _ (by
    obtain ⟨hk, rfl⟩ := dy_ix hq
    rw [e236] at hk
    show s.heap.size + k < s.heap.size + 236
    omega))
  have pH := dy_ho (Y := yH) (ord := ordH) (p3 := p3H) (fun a ha => List.all_eq_true.mp rH_ok a ha) (fun a ha => Nat.le_of_ble_eq_true ((Bool.and_eq_true _ _).mp (List.all_eq_true.mp rH_cells a ha)).1) hPH
  have pM := dy_ho (Y := yM) (ord := ordM) (p3 := p3H) (fun a ha => List.all_eq_true.mp rM_ok a ha) (fun a ha => Nat.le_of_ble_eq_true (List.all_eq_true.mp rM_cells a ha)) hP4
  have dH := dy_hoD (B := s.heap.size) (E := E) (S := zSH) rH_pos
  have dM := dy_hoD (B := s.heap.size + 236) (E := E) (S := zSM) rM_pos
  have hR : lw_R (E.1, (fun a => s.heap.size + ordH a), E.2.2) (E.1, (fun a => s.heap.size + 236 + ordM a), E.2.2) (fun q : Nat => s.heap.size ≤ q) s s.heap H4 ([] ++ L2 ++ L4) zSH zSM := by
    refine ⟨⟨hK, hK⟩, ⟨pH, pM⟩, ⟨dH, dM.weaken (fun k q _ h => ?_)⟩, fun a ha b2 hb2 => ?_, ?_, fun x h1 h2 => (oldc x (by omega)).trans (old2 x h1), fun q hq => ?_⟩
    · have h2 : s.heap.size + 236 ≤ q.1 := h
      show s.heap.size ≤ q.1
      omega
    · have h1 : ordH a ≤ 235 := Nat.le_of_ble_eq_true ((Bool.and_eq_true _ _).mp (List.all_eq_true.mp rH_cells a ha)).2
      show s.heap.size + ordH a ≠ s.heap.size + 236 + ordM b2
      omega
    · omega
    · rcases List.mem_append.mp hq with h | h
      · rcases List.mem_append.mp h with h | h
        · cases h
        · exact hL2 q h
      · have h2 : s.heap.size + 236 ≤ q.base := hL4 q h
        show s.heap.size ≤ q.base
        omega
  have e0 : s.heap.size + ordH 0 = s.heap.size := by
    have : ordH 0 = 0 := by decide
    rw [this]
    rfl
  have e1 : s.heap.size + 236 + ordM 0 = s.heap.size + 236 := by
    have : ordM 0 = 0 := by decide
    rw [this]
  refine law_loop (EH := (E.1, (fun a => s.heap.size + ordH a), E.2.2)) (EM := (E.1, (fun a => s.heap.size + 236 + ordM a), E.2.2)) hL C hX hbl (by decide) (by decide) sim_ok (L + 1) 0 zSH zSM sim_start (by omega) (by decide) H4 _ ls hR ?_
  refine ⟨hl.1, hl.2.1, fun q hq => hl.2.2 q ?_⟩
  show q ∈ [(3, Value.int (0 : Int32)), (2, Value.ref (s.heap.size + 236)), (1, Value.ref s.heap.size), (0, Value.ref b)]
  have hq2 : q ∈ [(0, Value.ref b), (1, Value.ref (s.heap.size + ordH 0)), (2, Value.ref (s.heap.size + 236 + ordM 0)), (3, Value.int (nI 0))] := hq
  rw [e0, e1] at hq2
  simp only [List.mem_cons, List.not_mem_nil, or_false] at hq2 ⊢
  rcases hq2 with h | h | h | h
  · exact Or.inr (Or.inr (Or.inr h))
  · exact Or.inr (Or.inr (Or.inl h))
  · exact Or.inr (Or.inl h)
  · exact Or.inl h
set_option maxHeartbeats 4000000 in
theorem lw_walk (l : Launch) (hflags : l.flags = flags0) (b : Addr) (xs : List Int32) : MetFree l x (headSpec (Jvm.Cond.code x code maxLocals ret :: tables_1) room_1) (lw_P b xs) (fun _ _ _ _ _ => True) lw_Q := by
  refine MetFree.of_bodyS (code := code) (maxLocals := maxLocals) (ret := ret) (by decide) ?_ ?_
  · intro args s m h hn
    obtain ⟨meth, c, h1, h2, h3, h4, h5, h6, -, -⟩ := Cond.code_spec hn (atoms_spec (ws := Jvm.Cond.code x code maxLocals ret :: tables_1) h _ List.mem_cons_self)
    exact ⟨meth, c, h1, h2, h3, h4, h5, h6⟩
  · intro p e s m args below meth c s₁ B hml0 hP _
    obtain ⟨rfl, hx, hbd, hgv⟩ := hP
    obtain ⟨scr, harrAt, hlist, hof, hsmall⟩ := hx
    obtain ⟨hcb, hkn, -, -⟩ := State.arrayAt?_spec harrAt
    have hown : s.vm.findClass R_law = some m.cls := findClass_of_methodNamed B.named
    have hts0 : ∀ c ∈ (Jvm.Cond.code x code maxLocals ret :: tables_1), c.before #[Value.ref b] s = true := atoms_spec (ws := Jvm.Cond.code x code maxLocals ret :: tables_1) B.pre
    have hts : ∀ w ∈ lw_tbl, w.before #[Value.ref b] s = true := k2_hts_sels lw_privs (fun w hw => hts0 w (List.mem_cons_of_mem _ hw)) lw_privs_ok
    have hml : c.maxLocals = 4 := B.maxLocals_eq (hts0 _ List.mem_cons_self)
    have X₀ : Stand p l e room_1 s m #[Value.ref b] below meth c s₁ [] 0 0 := Stand.of_body B
    have hh0 : s₁.heap = s.heap := by rw [B.state]; rfl
    have hsz : scr.slots.size = xs.length := by rw [← Array.length_toList, hlist, List.length_map]
    have hval : ∀ j : Nat, j < xs.length → scr.slots[j]? = some (.int (xs.getD j 0)) := fun j hj => by
      rw [← Array.getElem?_toList, hlist]
      simp [hj]
    have hbl : b < s.heap.size := (Array.getElem?_eq_some_iff.mp hcb).1
    have hX : va_X b xs.length (fun j => xs.getD j 0) s s.heap := ⟨scr, hcb, hof, hkn, hsz, hval⟩
    have K : W p l e room_1 s m #[Value.ref b] below meth c s₁.heap [] 0 0 (lw_Z below #[Value.ref b] s) (entryFrame m ([Value.ref b] : List Value).toArray 4) := by
      rw [hh0]
      exact whole_start l hflags hbd ⟨B.exec, B.bytes, B.returns, hml, hown, hts, hX, hbl, B.notSynchronized, hgv⟩
    obtain ⟨t, a1, o, b1, b2, b3⟩ := K s₁ rfl X₀
    exact ⟨t, o, a1, b1, b2, b3⟩
theorem lw_pre_spec {args : Array Value} {s : State} (h : (Jvm.Cond.and given_1 narrow_1).before args s = true) (hr : rest_1_c.before args s = true) : ∃ (b : Addr) (xs : List Int32), lw_P b xs args s := by
  have hs := flat_of_before _ h
  have hq := flat_of_before _ hr
  have hc : (Cond.count 1).before args s = true := hs _ (by decide +kernel)
  have harr : (Cond.arrayOf (.arg 0) .int).before args s = true := hs _ (by decide +kernel)
  have hle : (Cond.le (.length (.arg 0)) (.int 3072)).before args s = true := hs _ (by decide +kernel)
  have hlen : (Cond.isInt (.length (.arg 0))).before args s = true := hq _ (by decide +kernel)
  have hall : (Cond.all (.arg 0) (.isInt (.elem (.arg 0) (.index 0)))).before args s = true := hq _ (by decide +kernel)
  obtain ⟨b, xs, hb, hx⟩ := State.ints_of_pre rfl harr hlen hall
  have hsm : xs.length < 2 ^ 31 := hx.choose_spec.2.2.2
  have hev : (Term.length (.arg 0)).eval args s none [] s = some (.int xs.length.toInt32) := hx.length_eval hb
  have hv := Cond.le_ints hev (show (Term.int 3072).eval args s none [] s = some (.int 3072) from rfl)
  have hd : xs.length.toInt32 ≤ 3072 := by
    simpa [Cond.before, Cond.holds, hv] using hle
  have hN : xs.length ≤ 3072 := (Int32.ofNat_le_ofNat hsm (by decide)).mp (show Int32.ofNat xs.length ≤ Int32.ofNat 3072 from hd)
  exact ⟨b, xs, Cond.one_arg hc (show args[0]? = some (.ref b) from hb), hx, hN, h⟩
theorem lw_comes (l : Launch) (hflags : l.flags = flags0) : Comes l x (Jvm.Cond.code x code maxLocals ret :: tables_1) room_1 (fun tb e args s => Calls_1 tb e args s ∧ rest_1 tb e args s ∧ Pre_1 tb e args s)
    (fun _ _ args s o t => lw_Q args s o t) := by
  intro p e ha hc hk s m args below hf hfit hheap happ hpre
  obtain ⟨b, xs, hP⟩ := lw_pre_spec hpre.2.2 hpre.2.1
  obtain ⟨k, o, h1, h2, h3, hQ⟩ := lw_walk l hflags b xs p e ha hc hk s m args below hf ((Spec.applies_iff_loose hf).mp happ).1 hP trivial
  exact ⟨k, o, h1, h2, h3, hQ⟩
theorem lw_frame {s t : State} {o : Outcome} {args : Array Value} (h : Framed s o t [] 600000 7302250) :
    Framed s o t (fieldLocs frame_1_writes args s ++ arrayLocs frame_1_arrays args s ++ staticLocs frame_1_statics s) 600000 7302250 := h
theorem lw_limb (L : Cond) (hL : ∀ (args : Array Value) (s t : State), L.after args s (.returned (some (.int 1))) t = true) :
    ArmFor flags0 classFile x code maxLocals ret World_1 tables_1 room_1 Calls_1 rest_1 Pre_1
      (fun tb e a s o t => postC L tb e a s o t ∧ Framed s o t (fieldLocs frame_1_writes a s ++ arrayLocs frame_1_arrays a s ++ staticLocs frame_1_statics s) 600000 7302250) := by
  intro l hflags _ _ p e ha hc hk s m args below hf hfit hheap happ hpre
  obtain ⟨k, o, h1, h2, h3, rfl, hF⟩ := lw_comes l hflags p e ha hc hk s m args below hf hfit hheap happ hpre
  exact ⟨k, _, h1, h2, h3, hL args s _, lw_frame hF⟩
theorem i_vc : Claimed_1_1 ∧ Claimed_1_2 := ⟨lw_limb limb_1_1 (fun args s t => by simp [limb_1_1, Cond.after, Cond.holds, Cond.value]), lw_limb limb_1_2 (fun args s t => Cond.after_iff.mpr (by
  first | (rw [show limb_1_2 = Cond.eq .result (.int 1) from rfl, Cond.eq_ints (x := 1) (y := 1) rfl rfl]; simp; done) | (simp [limb_1_2, Cond.value, Term.eval]; done)))⟩
