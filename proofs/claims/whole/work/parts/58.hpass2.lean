/-! level 2: the class: a year, a state copied -/
theorem gv_c {C : Cr} {z : Nat → Nat} {s : Nat} {g g' : Nat → Nat} (h : ∀ t, s.testBit t = true → g t = g' t) : gv C z s g = gv C z s g' ∧ ∀ kl, gvK C z s g kl = gvK C z s g' kl := by
  have e1 : ∀ n, gvP C z s g n = gvP C z s g' n := by
    intro n
    funext j
    unfold gvP
    by_cases p3 : 15 ≤ j ∧ j < 15 + n ∧ s.testBit (j - 15) = true
    · rw [if_pos p3, if_pos p3, h _ p3.2.2]
    · rw [if_neg p3, if_neg p3]
  have e2 : ∀ n, gvT C z s g n = gvT C z s g' n := by
    intro n
    unfold gvT
    rw [e1]
  constructor
  · funext j
    unfold gv
    rw [e1, e2]
  · intro kl
    unfold gvK
    rw [e1, e2]
/-- a year with the best show -/
def yr (C : Cr) (z : Nat → Nat) : Nat → Nat := gv C (rip C z) (bst C (rip C z)) (sgT C (rip C z))
def yrK (C : Cr) (z : Nat → Nat) (kl : List Nat) : List Nat := gvK C (rip C z) (bst C (rip C z)) (sgT C (rip C z)) kl
def yrA (C : Cr) (z : Nat → Nat) : Nat := apr C (rip C z) (bst C (rip C z))
theorem yr_ok {C : Cr} {z : Nat → Nat} (hC : okCr C) (hz : okZ C z) (hy : z 0 < 999) : okZ C (yr C z) := gv_ok hC (rip_ok hC hz) (by rw [rip_o hC (by omega)]; exact hy)
theorem yr_0 (C : Cr) (z : Nat → Nat) (hC : okCr C) : yr C z 0 = z 0 + 1 := by
  show rip C z 0 + 1 = _
  rw [rip_o hC (by omega)]
theorem bst_sub (C : Cr) (z : Nat → Nat) : bst C z &&& shw C z = bst C z := bsF_sub _ _ _ _
theorem bst_64 {C : Cr} (hC : okCr C) (z : Nat → Nat) : bst C z < 64 := bsF_64 (shw_64 hC z) _
theorem sr_sg {C : Cr} {z : Nat → Nat} {s m : Nat} (h : s &&& m = s) : ∀ t, s.testBit t = true → sr C z m t = sgT C z t := by
  intro t hb
  unfold sr
  rw [if_pos (sub_bit h hb)]
theorem h_year {S : Hp} {c a : Nat} {C : Cr} {z : Nat → Nat} {kl : List Nat} (hC : okCr C) (hz : okZ C z) (hy : z 0 < 999) (h : cH S c C) (hs : stH S a C z) (hkp : kpH S a kl) :
    ∃ S', f_X8_passYear a S = some (nI (yrA C z), S') ∧ stH S' a C (yr C z) ∧ kpH S' a (yrK C z kl) ∧ fH (scA c a) S S' := by
  obtain ⟨ha1, ha2, ha3⟩ := stH_a hs
  have hcc := cH_c h
  have hz1 := rip_ok hC hz
  obtain ⟨S1, r1, r2, r3, r4⟩ := h_rip hC hz h hs
  have f1 : fH (scA c a) S S1 := fH_mo r3 (fun b q => Or.inr (by omega))
  have h1 := cH_a h ha1 f1
  have k1 : kpH S1 a kl := by
    obtain ⟨k0, k1, k2⟩ := hkp
    refine ⟨k0, ?_, ?_⟩
    · rw [r4]; exact k1
    · rw [r3.1 (a + 5) (by omega)]; exact k2
  obtain ⟨S2, p1, p2, p3⟩ := h_look hC hz1 h1 r2
  have f2 : fH (scA c a) S1 S2 := fH_mo p3 (fun b q => Or.inl (by unfold scL scE at q; unfold scS scE; omega))
  have h2 := cH_l h1 p3
  have s2 := stH_l h1 r2 p3
  have k2 : kpH S2 a kl := kpH_f k1 p3 (by unfold scL scE; omega) (by unfold scL scE; omega)
  obtain ⟨S3, q1, q2, q3⟩ := h_choose hC hz1 h2 s2 p2
  have f3 : fH (scA c a) S2 S3 := fH_mo q3 (fun b q => Or.inl (Or.inr (by omega)))
  have h3 := cH_a h2 ha1 f3
  have s3 : stH S3 a C (rip C z) := stH_f s2 q3 (fun b q => by omega)
  have k3 : kpH S3 a kl := kpH_f k2 q3 (by omega) (by omega)
  obtain ⟨S4, u1, u2, u3, u4⟩ := h_give (w3 := 51) (s := bst C (rip C z)) (g := sr C (rip C z) (shw C (rip C z))) hC hz1 (bst_64 hC _) (by rw [rip_o hC (by omega)]; exact hy) ⟨by decide, by decide, by decide, by decide⟩ (fun t _ => by
    unfold sr
    have := sgT_le (z := rip C z) hC t
    split <;> omega) h3 s3 k3 (fun t ht _ => by rw [q3.1 51 (by decide)]; exact p2 t ht)
  obtain ⟨e1, e2⟩ := gv_c (C := C) (z := rip C z) (sr_sg (C := C) (z := rip C z) (bst_sub C (rip C z)))
  rw [e1] at u2
  rw [e2] at u3
  refine ⟨S4, ?_, u2, u3, fH_tr f1 (fH_tr f2 (fH_tr f3 u4))⟩
  unfold f_X8_passYear
  rw [r1, ob_s, p1, ob_s, q1, ob_s, q2.1, u1, ob2_s]
  rfl
theorem h_copy {S : Hp} {a0 a1 : Nat} {C : Cr} {z : Nat → Nat} {kl : List Nat} (h0 : a0 ∈ yH.1 ∧ yH.2.1 a0 = (1, 9)) (hne : a0 ≠ a1) (hs : stH S a1 C z) (hk : kpH S a1 kl) (hnw : cW C ≤ 5) :
    ∃ S', f_X9_copy a0 a1 S = some S' ∧ stH S' a0 C z ∧ kpH S' a0 kl ∧ fH (fun b => a0 ≤ b ∧ b ≤ a0 + 5) S S' := by
  obtain ⟨ha1, ha2, ha3⟩ := stH_a hs
  obtain ⟨hb1, hb2, hb3⟩ := c9H h0
  obtain ⟨s0, s1, s2, s3⟩ := hs
  obtain ⟨⟨n, n1, n2⟩, k1, k2⟩ := hk
  have e3 : kl.length / 3 = n := by omega
  have hd : a0 + 10 ≤ a1 ∨ a1 + 10 ≤ a0 := by omega
  have g1 : ∀ x y, x ≤ 5 → y ≤ 5 → a1 + x ≠ a0 + y := fun x y _ _ => by omega
  unfold f_X9_copy
  rw [le1_e, le1_e, sI_ne _ (by omega), le1_e, sI_ne _ (by omega), sI_ne _ (by omega), le1_e, sI_ne _ (by omega), sI_ne _ (by omega), sI_ne _ (by omega), s1.1, s1.2.1, s1.2.2, k1, e3]
  have r7 : ∀ (S4 : Hp), S4 = ho_sI (ho_sI (ho_sI (ho_sI S a0 0 (nI (z 0))) a0 1 (nI (z 1))) a0 2 (nI (z 2))) a0 7 (nI n) → (S4.1 a0 0 = nI (z 0) ∧ S4.1 a0 1 = nI (z 1) ∧ S4.1 a0 2 = nI (z 2) ∧ S4.1 a0 7 = nI n) ∧ (∀ b, b ≠ a0 → S4.1 b = S.1 b) ∧ S4.2 = S.2 := by
    intro S4 e
    subst e
    refine ⟨⟨?_, ?_, ?_, ?_⟩, fun b hb => ?_, rfl⟩
    · rw [sI_at, pk_un (by decide), sI_at, pk_un (by decide), sI_at, pk_un (by decide), sI_at, pk_us]
    · rw [sI_at, pk_un (by decide), sI_at, pk_un (by decide), sI_at, pk_us]
    · rw [sI_at, pk_un (by decide), sI_at, pk_us]
    · rw [sI_at, pk_us]
    · rw [sI_ne _ hb, sI_ne _ hb, sI_ne _ hb, sI_ne _ hb]
  generalize hS4 : ho_sI (ho_sI (ho_sI (ho_sI S a0 0 (nI (z 0))) a0 1 (nI (z 1))) a0 2 (nI (z 2))) a0 7 (nI n) = S4
  obtain ⟨⟨v0, v1, v2, v7⟩, v8, v9⟩ := r7 S4 hS4.symm
  rw [lit_nI 6, lit_nI 5, lit_nI 3, cpI_0 (by decide) (by decide) (by decide), cpI_0 (by decide) (by decide) (by decide), cpI_0 (by decide) (by decide) (by decide), cpI_0 (by decide) (by decide) (by decide)]
  rw [sA_ne (b := a0) _ _ (by omega), sA_ne (b := a0) _ _ (by omega), sA_ne (b := a0) _ _ (by omega), sA_ne (b := a0) _ _ (by omega), v7, pk_mul, cpI_0 (by omega) (by omega) (by omega)]
  refine ⟨_, rfl, ⟨h0, ?_, fun p hp => ?_, fun w hw => ?_⟩, ⟨⟨n, n1, n2⟩, ?_, fun j hj => ?_⟩, fun b hb => ?_, v9, fun q j hj => ?_⟩
  · rw [sA_ne _ _ (by omega), sA_ne _ _ (by omega), sA_ne _ _ (by omega), sA_ne _ _ (by omega), sA_ne _ _ (by omega)]; exact ⟨v0, v1, v2⟩
  · obtain ⟨p1, p2, p3⟩ := s2 p hp
    refine ⟨?_, ?_, ?_⟩
    · rw [sA_ne _ _ (by omega), sA_ne _ _ (by omega), sA_ne _ _ (by omega), sA_ne _ _ (by omega), sA_at, if_pos hp, v8 _ (by omega)]; exact p1
    · rw [sA_ne _ _ (by omega), sA_ne _ _ (by omega), sA_ne _ _ (by omega), sA_at, if_pos hp, sA_ne _ _ (by omega), v8 _ (by omega)]; exact p2
    · rw [sA_ne _ _ (by omega), sA_ne _ _ (by omega), sA_at, if_pos hp, sA_ne _ _ (by omega), sA_ne _ _ (by omega), v8 _ (by omega)]; exact p3
  · rw [sA_ne _ _ (by omega), sA_at, if_pos (by omega), sA_ne _ _ (by omega), sA_ne _ _ (by omega), sA_ne _ _ (by omega), v8 _ (by omega)]; exact s3 w hw
  · rw [sA_ne _ _ (by omega), sA_ne _ _ (by omega), sA_ne _ _ (by omega), sA_ne _ _ (by omega), sA_ne _ _ (by omega), v7, e3]
  · rw [sA_at, if_pos (by omega), sA_ne _ _ (by omega), sA_ne _ _ (by omega), sA_ne _ _ (by omega), sA_ne _ _ (by omega), v8 _ (by omega)]; exact k2 j hj
  · rw [sA_ne _ _ (by omega), sA_ne _ _ (by omega), sA_ne _ _ (by omega), sA_ne _ _ (by omega), sA_ne _ _ (by omega), v8 _ (by omega)]
  · rw [sA_ne _ _ (by omega), sA_ne _ _ (by omega), sA_ne _ _ (by omega), sA_ne _ _ (by omega), sA_ne _ _ (by omega), v8 _ (by omega)]; exact q j hj
