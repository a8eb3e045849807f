/-! level 3: what holds at the law's entry -/
theorem zl_1 {w : Cond} {i : Nat} (h : tables_1_1[i]? = some w) : w ∈ lw_tbl := List.mem_append_right _ (List.mem_append_left _ (List.mem_of_getElem? h))
theorem zl_2 {w : Cond} {i : Nat} (h : tables_1_2[i]? = some w) : w ∈ lw_tbl := List.mem_append_right _ (List.mem_append_right _ (List.mem_append_left _ (List.mem_of_getElem? h)))
theorem zl_3 {w : Cond} {i : Nat} (h : tables_1_3[i]? = some w) : w ∈ lw_tbl := List.mem_append_right _ (List.mem_append_right _ (List.mem_append_right _ (List.mem_append_left _ (List.mem_of_getElem? h))))
theorem gw_lw {w : Cond} (h : w ∈ gw) : w ∈ lw_tbl := (List.mem_filter.mp h).1
theorem zi_0 : Cond.instantiable RX0 16 ∈ gw := gt_2 (i := 111) (by decide +kernel) rfl
theorem zi_1 : Cond.instantiable RX1 9 ∈ gw := gt_2 (i := 233) (by decide +kernel) rfl
theorem zi_2 : Cond.instantiable RX2 16 ∈ gw := gt_1 (i := 131) (by decide +kernel) rfl
theorem zi_3 : Cond.instantiable RX3 5 ∈ gw := gt_2 (i := 6) (by decide +kernel) rfl
theorem zi_4 : Cond.instantiable RX4 3 ∈ gw := gt_1 (i := 139) (by decide +kernel) rfl
theorem zi_5 : Cond.instantiable RX5 3 ∈ gw := gt_3 (i := 32) (by decide +kernel) rfl
theorem zi_6 : Cond.instantiable RX6 5 ∈ gw := gt_2 (i := 45) (by decide +kernel) rfl
theorem zi_7 : Cond.instantiable RX7 3 ∈ gw := gt_2 (i := 12) (by decide +kernel) rfl
theorem zi_8 : Cond.instantiable RX8 8 ∈ gw := gt_2 (i := 71) (by decide +kernel) rfl
theorem zi_9 : Cond.instantiable RX9 9 ∈ gw := gt_2 (i := 117) (by decide +kernel) rfl
theorem zi_10 : Cond.instantiable RX10 11 ∈ gw := gt_1 (i := 31) (by decide +kernel) rfl
theorem zi_11 : Cond.instantiable RX11 17 ∈ gw := gt_1 (i := 23) (by decide +kernel) rfl
theorem zi_12 : Cond.instantiable RX12 111 ∈ gw := gt_6 (i := 11) (by decide +kernel) rfl
theorem zk_one {s : State} {args : Array Value} {ci : Nat} {Cn : String} {T : u_T} {ty : Nat → FieldType} {N : Nat} (hts : ∀ w ∈ lw_tbl, w.before args s = true) (F : ho_F ci Cn T ty N) (hi : Cond.instantiable Cn N ∈ gw) : ∃ x : ClassId × (Nat → Nat), ∀ q : vw_C, vwCl[ci]? = some q → u_Kn s q.1 q.2.1 q.2.2 x.1 x.2 := by
  obtain ⟨cC, iS, h⟩ := u_known (C := Cn) (T := T) (N := N) (n := N) hts (fun w hw => gw_lw (F.2.1 w hw)) (hts _ (gw_lw hi))
  refine ⟨(cC, iS), fun q hq => ?_⟩
  have e := Option.some.inj (F.1.symm.trans hq)
  subst e
  exact h
theorem zk_arr {s : State} {cA : ClassId} {ty : FieldType} {k : Class} {comp : ClassId} (h1 : s.vm.classes[cA]? = some k) (h2 : k.kind = .array comp ty) : ArrOfT s cA ty := fun _ _ => ⟨fun _ h => (by cases h), k, h1, comp, h2⟩
theorem zk_prim {s : State} {args : Array Value} {ty : FieldType} (h : (Cond.arrayClass ty).before args s = true) : ∃ cA : ClassId, ArrOfT s cA ty ∧ s.vm.findClass ("[" ++ ty.toString) = some cA := by
  obtain ⟨c, k, comp, h1, h2, h3⟩ := Cond.arrayClass_spec h
  exact ⟨c, zk_arr h2 h3, h1⟩
theorem zk_all {s : State} {args : Array Value} (hts : ∀ w ∈ lw_tbl, w.before args s = true) : ∃ E : Ev, va_K E.1 vwCl (ho_t E) s := by
  have h0 : ∀ c : Nat, ∃ x : ClassId × (Nat → Nat), ∀ q : vw_C, vwCl[c]? = some q → u_Kn s q.1 q.2.1 q.2.2 x.1 x.2 := fun c => match c with
    | 0 => zk_one hts cf0 zi_0
    | 1 => zk_one hts cf1 zi_1
    | 2 => zk_one hts cf2 zi_2
    | 3 => zk_one hts cf3 zi_3
    | 4 => zk_one hts cf4 zi_4
    | 5 => zk_one hts cf5 zi_5
    | 6 => zk_one hts cf6 zi_6
    | 7 => zk_one hts cf7 zi_7
    | 8 => zk_one hts cf8 zi_8
    | 9 => zk_one hts cf9 zi_9
    | 10 => zk_one hts cf10 zi_10
    | 11 => zk_one hts cf11 zi_11
    | 12 => zk_one hts cf12 zi_12
    | n + 13 => ⟨(0, fun _ => 0), fun q hq => by
        have hl : vwCl.length = 13 := rfl
        rw [List.getElem?_eq_none (by omega)] at hq
        cases hq⟩
  obtain ⟨f, hf⟩ := Classical.axiomOfChoice h0
  obtain ⟨c0, a0, b0⟩ := zk_prim (ty := .byte) (hts _ (zl_1 (i := 128) rfl))
  obtain ⟨c1, a1, b1⟩ := zk_prim (ty := .char) (hts _ (gw_lw (gt_7 (i := 110) rfl rfl)))
  obtain ⟨c2, a2, b2⟩ := zk_prim (ty := .int) (hts _ (zl_1 (i := 129) rfl))
  obtain ⟨c3, a3, b3⟩ := zk_prim (ty := .long) (hts _ (gw_lw (gt_7 (i := 111) rfl rfl)))
  obtain ⟨c4, a4, b4⟩ := zk_prim (ty := .boolean) (hts _ (gw_lw (gt_7 (i := 112) rfl rfl)))
  obtain ⟨q5, c5, k5, u1, u2, u3, u4, u5⟩ := Cond.arrayOver_spec (hts _ (zl_3 (i := 51) rfl) : (Cond.arrayOver (.object "EmptyHat$State")).before args s = true)
  obtain ⟨q6, c6, k6, v1, v0, v2, v3, v4⟩ := arrayOverA_spec (hts _ (zl_1 (i := 137) rfl) : (Cond.arrayOver (.array .int)).before args s = true)
  refine ⟨((fun c => (f c).1, fun c => (f c).2), (fun _ => 0), (fun i => [c0, c1, c2, c3, c4, c5, c6].getD i 0)), fun c q hq => hf c q hq, fun k q hq => ?_⟩
  match k with
  | 0 => cases hq; exact ⟨a0, b0⟩
  | 1 => cases hq; exact ⟨a1, b1⟩
  | 2 => cases hq; exact ⟨a2, b2⟩
  | 3 => cases hq; exact ⟨a3, b3⟩
  | 4 => cases hq; exact ⟨a4, b4⟩
  | 5 => cases hq; exact ⟨zk_arr u3 u4, ⟨k5, q5, u3, u4, u1, u5⟩⟩
  | 6 => cases hq; exact ⟨zk_arr v2 v3, v4⟩
  | n + 7 => cases hq
theorem zn_0 : Cond.methodLinkNest RX11 18 yX2_init "EmptyHat" ∈ lw_tbl := zl_1 (i := 132) (by decide +kernel)
theorem zn_1 : Cond.methodLinkNest RX11 71 yX5_init "EmptyHat" ∈ lw_tbl := zl_3 (i := 33) (by decide +kernel)
theorem zn_2 : Cond.methodLinkNest RX11 78 yX9_init "EmptyHat" ∈ lw_tbl := zl_3 (i := 50) (by decide +kernel)
theorem zn_3 : Cond.methodLinkNest RX0 29 yX9_init "EmptyHat" ∈ lw_tbl := zl_2 (i := 118) (by decide +kernel)
theorem zn_4 : Cond.methodLinkNest RX2 59 yX4_init "EmptyHat" ∈ lw_tbl := zl_1 (i := 140) (by decide +kernel)
theorem zn_5 : Cond.methodLinkNest RX6 13 yX4_init "EmptyHat" ∈ lw_tbl := zl_2 (i := 51) (by decide +kernel)
theorem zn_all : ∀ q ∈ nwL, Cond.methodLinkNest q.1 q.2.1 q.2.2 "EmptyHat" ∈ lw_tbl := List.forall_mem_cons.mpr ⟨zn_0, List.forall_mem_cons.mpr ⟨zn_1, List.forall_mem_cons.mpr ⟨zn_2, List.forall_mem_cons.mpr ⟨zn_3, List.forall_mem_cons.mpr ⟨zn_4, List.forall_mem_cons.mpr ⟨zn_5, fun _ h => absurd h List.not_mem_nil⟩⟩⟩⟩⟩⟩
theorem zs_ref : Cond.stringRef RX10 47 dtx ∈ lw_tbl := zl_1 (i := 36) (by decide +kernel)
abbrev zTm : Term := Term.string "EmptyHat$Text" 47
theorem zf_ex : Cond.exactly zTm "java/lang/String" ∈ flatC (Jvm.Cond.and given_1 narrow_1) := by decide +kernel
theorem zf_co : Cond.eq (.field zTm "java/lang/String" "coder" "B") (.int 0) ∈ flatC (Jvm.Cond.and given_1 narrow_1) := by decide +kernel
theorem zf_ar : Cond.arrayOf (.field zTm "java/lang/String" "value" "[B") .byte ∈ flatC (Jvm.Cond.and given_1 narrow_1) := by decide +kernel
theorem zf_le : Cond.eq (.length (.field zTm "java/lang/String" "value" "[B")) (.int (Int32.ofNat 210)) ∈ flatC (Jvm.Cond.and given_1 narrow_1) := by decide +kernel
abbrev zEl (j : Nat) : Cond := Cond.eq (.elem (.field zTm "java/lang/String" "value" "[B") (.int (Int32.ofNat j))) (.int (dby.getD j 0))
theorem zf_l : ((flatC (Jvm.Cond.and given_1 narrow_1)).drop 13).take 210 = (List.range 210).map zEl := by decide +kernel
theorem zf_el : ∀ j, j < 210 → zEl j ∈ flatC (Jvm.Cond.and given_1 narrow_1) := fun j hj => List.mem_of_mem_drop (List.mem_of_mem_take (by rw [zf_l]; exact List.mem_map_of_mem (List.mem_range.mpr hj)))
theorem zf_cs : Cond.eq (Term.static "java/lang/String" "COMPACT_STRINGS" "Z") (.int 1) ∈ flatC (Jvm.Cond.and given_1 narrow_1) := by decide +kernel
theorem zf_sf : Cond.isRef (Term.static "jdk/internal/util/Preconditions" "SIOOBE_FORMATTER" "Ljava/util/function/BiFunction;") ∈ flatC (Jvm.Cond.and given_1 narrow_1) := by decide +kernel
theorem zx_all {s : State} {args : Array Value} (hts : ∀ w ∈ lw_tbl, w.before args s = true) (hg : (Jvm.Cond.and given_1 narrow_1).before args s = true) {B : Nat} (hB : s.heap.size ≤ B) : ∃ ak av : Nat → Nat, dy_X B ak av s := by
  have hs := flat_of_before _ hg
  have hA : ∀ a : Nat, a < s.heap.size → ¬ (fun q : Nat => B ≤ q) a := fun a ha h => by
    have h2 : B ≤ a := h
    omega
  have hz : ∀ i : Nat, i < 1 → i = 0 := fun i hi => by omega
  obtain ⟨ak, av, hS, hE⟩ := vk_Sof (args := args) (s := s) (N := 1) (tm := fun _ => zTm) (len := [210]) (byt := [dby]) (A := fun q : Nat => B ≤ q) (fun i hi => by rw [hz i hi]; decide) (fun _ _ => hs _ zf_ex) (fun _ _ => hs _ zf_co) (fun _ _ => hs _ zf_ar) (fun i hi => by rw [hz i hi]; exact hs _ zf_le) (fun i hi j hj => by rw [hz i hi] at hj ⊢; exact hs _ (zf_el j hj)) (fun i j hi hj hne => absurd ((hz i hi).trans (hz j hj).symm) hne) hA
  refine ⟨ak, av, fun q hq => va_Nw.of rfl (hts _ (zn_all q hq)), (show (Cond.arrayOver (.array .int)).before #[] s = true from hts _ (zl_1 (i := 137) rfl)), va_AO.of (hts _ (zl_3 (i := 51) rfl)), vk_R.of (A := args) (hts _ zs_ref) (hE 0 (by decide)), hS, va_Zof (hts _ (zl_1 (i := 46) rfl)) (hts _ (zl_1 (i := 3) rfl)) (va_eqt (hs _ zf_cs)) hA, ?_⟩
  obtain ⟨v, h1, h2⟩ := Cond.isRef_spec (hs _ zf_sf)
  cases v with
  | null => exact Or.inl (va_Zof (hts _ (zl_1 (i := 54) rfl)) (hts _ (zl_1 (i := 5) rfl)) h1 hA)
  | ref t => exact Or.inr ⟨t, va_Zref (hts _ (zl_1 (i := 54) rfl)) (hts _ (zl_1 (i := 5) rfl)) h1 hA⟩
  | _ => cases h2
