/-! level 2: alike answers: both -/
theorem gv_hi {C : Cr} {z g : Nat → Nat} {s j : Nat} (h : 3 ≤ j) : gv C z s g j = gvP C z s g (cT C) j := by
  unfold gv
  rw [if_neg (by omega), if_neg (by omega), if_neg (by omega)]
/-- what can be shown behind a show could be shown before -/
theorem shw_gv {C : Cr} {z g : Nat → Nat} {s t : Nat} (hC : okCr C) (hz : okZ C z) (h : (shw C (gv C z s g)).testBit t = true) : (shw C z).testBit t = true := by
  have hnt := hC.1.2.1
  obtain ⟨h1, h2, h3⟩ := shw_bit.mp h
  have l1 := lsB_le C (gvP C z s g (cT C)) (gvT C z s g (cT C)) [] (cT C)
  rw [gvP_a _ _ _ _ _ (by omega) hnt] at l1
  have e1 : gv C z s g 2 = (lsB C (gvP C z s g (cT C)) (gvT C z s g (cT C)) [] (cT C)).1 := rfl
  rw [gv_hi (by omega), gvP_k _ _ _ _ _ (by omega) hnt] at h3
  have z5 := hz.2.2.2.2.2.1 t (by omega)
  refine shw_bit.mpr ⟨by omega, h2, ?_⟩
  split at h3 <;> omega
/-- how much of a trick is seen behind a show -/
theorem la_sg {C : Cr} {z g : Nat → Nat} {s t : Nat} (hC : okCr C) (ht : t < cT C) : sgT C (rip C (gv C z s g)) t = if s.testBit t = true then laG C z t else laU C z t := by
  have hnt := hC.1.2.1
  have hnw := hC.1.2.2
  have e9 : rip C (gv C z s g) (9 + t) = if t < cT C ∧ s.testBit t = true then min 9999 (z (9 + t) + 1) else z (9 + t) := by
    rw [rip_o hC (by omega), gv_hi (by omega), gvP_t _ _ _ _ _ (by omega) hnt]
  have e0 : rip C (gv C z s g) 0 = z 0 + 1 := by
    rw [rip_o hC (by omega)]; rfl
  have ew : ∀ w, w < cW C → rip C (gv C z s g) (21 + w) = z (21 + w) := fun w hw => by
    rw [rip_o hC (by omega), gv_hi (by omega), gvP_a _ _ _ _ _ (by omega) hnt]
  by_cases e : s.testBit t = true
  · rw [if_pos e]
    rw [if_pos ⟨ht, e⟩] at e9
    exact sgT_cg hC (by rw [e0, zup_n (by omega), zup_s]) (by rw [e9, zup_s]) (fun w hw => by rw [ew w hw, zup_n (by omega), zup_n (by omega)])
  · rw [if_neg e]
    rw [if_neg (fun q => e q.2)] at e9
    exact sgT_cg hC (by rw [e0, zup_s]) (by rw [e9, zup_n (by omega)]) (fun w hw => by rw [ew w hw, zup_n (by omega)])
def fpP (c b : Nat) : Prop := scS c b ∨ b = 65 ∨ b = 69 ∨ (1240 ≤ b ∧ b ≤ 1255)
theorem h_fp59 {c : Nat} {C : Cr} {z : Nat → Nat} {kl : List Nat} (hC : okCr C) (hz : okZ C z) (hy : z 0 + 2 ≤ 999) : ∀ (d i K : Nat) (S : Hp), i + d = shw C z + 1 → d < K → cH S c C → stH S 1230 C (rip C z) → kpH S 1230 kl → (∀ t, t < cT C → S.1 66 t = nI (sr C (rip C z) (shw C (rip C z)) t)) → (∀ t, (shw C (rip C z)).testBit t = true → S.1 67 t = nI (laU C (rip C z) t) ∧ S.1 68 t = nI (laG C (rip C z) t)) → prH S (prO C z i) → ∃ S', f_X0_findPair_59 1200 K (nI (shw C z)) (nI i) S = some S' ∧ prH S' (prO C z (shw C z + 1)) ∧ fH (fpP c) S S' := by
  have h64 := shw_64 hC z
  have hz1 := rip_ok hC hz
  have y1 : rip C z 0 < 999 := by rw [rip_o hC (by omega)]; omega
  intro d
  induction d with
  | zero =>
    intro i K S hi hK h hs hk hn hl hp
    obtain ⟨K, rfl⟩ : ∃ q, K = q + 1 := ⟨K - 1, by omega⟩
    refine ⟨S, by rw [f_X0_findPair_59, if_pos (nI_lt (by omega) (by omega))], ?_, fH_rf _ S⟩
    rw [show shw C z + 1 = i by omega]; exact hp
  | succ d ih =>
    intro i K S hi hK h hs hk hn hl hp
    obtain ⟨K, rfl⟩ : ∃ q, K = q + 1 := ⟨K - 1, by omega⟩
    have hcc := cH_c h
    have h116 : ∀ Sx, f_X0_findPair_116 (f_X0_findPair_59 1200 K) 1200 (nI (shw C z)) (nI i) Sx = f_X0_findPair_59 1200 K (nI (shw C z)) (nI (i + 1)) Sx := by
      intro Sx
      unfold f_X0_findPair_116
      rw [le1_e, nI_1]
    rw [f_X0_findPair_59, if_neg (nI_nlt (by omega) (by omega))]
    by_cases e : i &&& shw C z = i
    rotate_left
    · rw [if_neg (fun q => e ((sub_nat (by omega) h64).mp q)), h116]
      refine ih (i + 1) K S (by omega) (by omega) h hs hk hn hl ?_
      rw [prO, if_neg e]; exact hp
    obtain ⟨S1, r1, r2, r3, r4⟩ := h_copy s1240 (by decide) hs hk hC.1.2.2
    have h1 : cH S1 c C := cH_f h r4 (fun b q => by unfold crC; omega)
    obtain ⟨S2, t1, t2, t3, t4⟩ := h_give (s := i) (w3 := 66) (g := sr C (rip C z) (shw C (rip C z))) hC hz1 (by omega) y1 ⟨by decide, by decide, by decide, by decide⟩ (fun t _ => by
      unfold sr
      have := sgT_le (z := rip C z) hC t
      split <;> omega) h1 r2 r3 (fun t ht hb => by rw [r4.1 66 (by first | decide | (dsimp only; omega) | omega)]; exact hn t ht)
    rw [(gv_c (C := C) (z := rip C z) (sr_sg (C := C) (z := rip C z) (s := i) (m := shw C (rip C z)) (by rw [shw_rip hC]; exact e))).1] at t2
    have h2 : cH S2 c C := cH_a h1 (by decide) t4
    have hg1 := gv_ok (s := i) (g := sgT C (rip C z)) hC hz1 y1
    have g0 : gv C (rip C z) i (sgT C (rip C z)) 0 = z 0 + 1 := by
      show rip C z 0 + 1 = _
      rw [rip_o hC (by omega)]
    obtain ⟨S3, u1, u2, u3, u4⟩ := h_rip hC hg1 h2 t2
    have h3 : cH S3 c C := cH_f h2 u3 (fun b q => by unfold crC; omega)
    have k3 : kpH S3 1240 _ := kpH_f t3 u3 (by first | decide | (dsimp only; omega) | omega) (by first | decide | (dsimp only; omega) | omega)
    have f3 : fH (fpP c) S S3 := fH_tr (fH_mo r4 (fun b q => Or.inr (Or.inr (Or.inr (by omega))))) (fH_tr (fH_mo t4 (fun b q => q.elim Or.inl (fun x => Or.inr (Or.inr (Or.inr (by omega)))))) (fH_mo u3 (fun b q => Or.inr (Or.inr (Or.inr (by omega))))))
    have e65 : S3.1 65 = S.1 65 := by rw [u3.1 65 (by first | decide | (dsimp only; omega) | omega), t4.1 65 (by unfold scA scS scE; omega), r4.1 65 (by first | decide | (dsimp only; omega) | omega)]
    have g67 : S3.1 67 = S.1 67 := f3.1 67 (by unfold fpP scS scE; omega)
    have g68 : S3.1 68 = S.1 68 := f3.1 68 (by unfold fpP scS scE; omega)
    obtain ⟨S4, v1, v2, v3⟩ := h_pw (a := i) (o := prO C z i) hC hg1 (by rw [g0]; omega) (by omega) (prO_ok hC hz hy i (by omega)) h3 u2 ⟨_, k3⟩ (fun t ht hb => by
      obtain ⟨l1, l2⟩ := hl t (shw_gv hC hz1 hb)
      rw [la_sg hC ht, g67, g68, l1, l2]
      split <;> rfl) (prH_e hp e65)
    have f4 : fH (fpP c) S S4 := fH_tr f3 (fH_mo v3 (fun b q => by unfold pw2 pwP scS scE at q; unfold fpP scS scE; omega))
    obtain ⟨S', q1, q2, q3⟩ := ih (i + 1) K S4 (by omega) (by omega) (cH_f h f4 (fun b q => by unfold fpP scS scE at q; unfold crC; omega)) (stH_f hs f4 (fun b q => by unfold fpP scS scE at q; omega)) (kpH_f hk f4 (by unfold fpP scS scE; omega) (by unfold fpP scS scE; omega)) (fun t ht => by rw [f4.1 66 (by unfold fpP scS scE; omega)]; exact hn t ht) (fun t ht => by rw [f4.1 67 (by unfold fpP scS scE; omega), f4.1 68 (by unfold fpP scS scE; omega)]; exact hl t ht) (by rw [prO, if_pos e]; exact v2)
    refine ⟨S', ?_, q2, fH_tr f4 q3⟩
    rw [if_pos ((sub_nat (by omega) h64).mpr e), r1, ob_s, t1, ob2_s, u1, ob_s, v1, ob_s, h116]
    exact q1
theorem prI_s {C : Cr} {z1 : Nat → Nat} {a : Nat} {o : Pr} : ∀ n, (0 < n ∨ ∃ p, o = some p) → ∃ p, prI C z1 a o n = some p := by
  intro n
  induction n with
  | zero => intro h; exact h.resolve_left (Nat.lt_irrefl 0)
  | succ n ih =>
    intro h
    rw [prI]
    split
    · exact ⟨_, rfl⟩
    · next q =>
      apply ih
      by_cases e : 0 < n
      · exact Or.inl e
      · have : n = 0 := by omega
        subst this
        cases o with
        | some p => exact Or.inr ⟨p, rfl⟩
        | none => exact absurd ⟨Nat.zero_and _, rfl⟩ q
theorem prO_s {C : Cr} {z : Nat → Nat} : ∀ n, 0 < n → ∃ p, prO C z n = some p := by
  intro n
  induction n with
  | zero => intro h; omega
  | succ n ih =>
    intro _
    rw [prO]
    split
    · exact prI_s _ (Or.inl (Nat.two_pow_pos _))
    · next q =>
      apply ih
      by_cases e : 0 < n
      · exact e
      · have : n = 0 := by omega
        subst this
        exact absurd (Nat.zero_and _) q
theorem bth_o {C : Cr} {z : Nat → Nat} (j : Nat) : oB (prO C z (2 ^ cT C)) j = nI (bth C z j) := by
  obtain ⟨p, hp⟩ := prO_s (C := C) (z := z) (2 ^ cT C) (Nat.two_pow_pos _)
  unfold bth
  rw [hp]
  rfl
def fqP (c b : Nat) : Prop := scS c b ∨ b = 60 ∨ (65 ≤ b ∧ b ≤ 69) ∨ (1230 ≤ b ∧ b ≤ 1255)
theorem h_find {S : Hp} {c : Nat} {C : Cr} {z : Nat → Nat} {kl : List Nat} (hC : okCr C) (hz : okZ C z) (hy : z 0 + 2 ≤ 999) (h : cH S c C) (b : hN S C z kl) (d : h10 S true C z) : ∃ S', f_X0_findPair 1200 S = some S' ∧ (∀ i, i < 4 → S'.1 65 i = nI (bth C z i)) ∧ S'.1 60 15 = 1 ∧ S'.1 60 14 = S.1 60 14 ∧ fH (fqP c) S S' := by
  have hcc := cH_c h
  have hz1 := rip_ok hC hz
  have y1 : rip C z 0 < 999 := by rw [rip_o hC (by omega)]; omega
  unfold f_X0_findPair
  rcases d.2 with d0 | ⟨d0, -, d1, d2⟩
  rotate_left
  · rw [d0, if_neg ne1]
    exact ⟨S, rfl, d2, d0, rfl, fH_rf _ S⟩
  rw [d0, if_pos rfl, le1_e]
  obtain ⟨S1, hS1⟩ : ∃ S1, S1 = ho_sI S 60 15 1 := ⟨_, rfl⟩
  have f1 : fH (fun b => b = 60) S S1 := by rw [hS1]; exact fH_sI S rfl (by decide)
  have h1 : cH S1 c C := cH_f h f1 (fun b q => by unfold crC; omega)
  have b1 := hN_f b f1 (fun b q x => by omega)
  obtain ⟨S2, r1, r2, r3, r4⟩ := h_copy s1230 (by decide) b1.1 b1.2 hC.1.2.2
  have h2 : cH S2 c C := cH_f h1 r4 (fun b q => by unfold crC; omega)
  obtain ⟨S3, t1, t2, t3, t4⟩ := h_rip hC hz h2 r2
  have h3 : cH S3 c C := cH_f h2 t3 (fun b q => by unfold crC; omega)
  have k3 := kpH_f r3 t3 (by first | decide | (dsimp only; omega) | omega) (by first | decide | (dsimp only; omega) | omega)
  obtain ⟨S4, u1, u2, u3, u4⟩ := h_la hC hz1 y1 h3 t2 k3
  have h4 : cH S4 c C := cH_f h3 u4 (fun b q => by unfold laF scS scE at q; unfold crC; omega)
  have s4 : stH S4 1230 C (rip C z) := stH_f t2 u4 (fun b q => by unfold laF scS scE at q; omega)
  have k4 := kpH_f k3 u4 (by unfold laF scS scE; omega) (by unfold laF scS scE; omega)
  obtain ⟨S5, hS5⟩ : ∃ S5, S5 = ho_sI S4 65 2 (nI 100000) := ⟨_, rfl⟩
  have f5 : fH (fun b => b = 65) S4 S5 := by rw [hS5]; exact fH_sI S4 rfl (by decide)
  obtain ⟨S6, v1, v2, v3⟩ := h_fp59 hC hz hy (shw C z + 1) 0 5000 S5 (by omega) (by have := shw_64 hC z; omega) (cH_f h4 f5 (fun b q => by unfold crC; omega)) (stH_f s4 f5 (fun b q => by omega)) (kpH_f k4 f5 (by first | decide | (dsimp only; omega) | omega) (by first | decide | (dsimp only; omega) | omega)) (fun t ht => by rw [f5.1 66 (by first | decide | (dsimp only; omega) | omega)]; exact u2 t ht) (fun t ht => by rw [f5.1 67 (by first | decide | (dsimp only; omega) | omega), f5.1 68 (by first | decide | (dsimp only; omega) | omega)]; exact u3 t ht) (by show S5.1 65 2 = _; rw [hS5, sI_v])
  have e60 : S6.1 60 = S1.1 60 := by
    rw [v3.1 60 (by unfold fpP scS scE; omega), f5.1 60 (by first | decide | (dsimp only; omega) | omega), u4.1 60 (by unfold laF scS scE; omega), t3.1 60 (by first | decide | (dsimp only; omega) | omega), r4.1 60 (by first | decide | (dsimp only; omega) | omega)]
  rw [← prO_hi _ (shw_lt C z)] at v2
  refine ⟨S6, ?_, fun i hi => ?_, by rw [e60, hS1, sI_v], by rw [e60, hS1, sI_k (by decide)], fH_tr (fH_mo f1 (fun b q => Or.inr (Or.inl q))) (fH_tr (fH_mo r4 (fun b q => Or.inr (Or.inr (Or.inr (by omega))))) (fH_tr (fH_mo t3 (fun b q => Or.inr (Or.inr (Or.inr (by omega))))) (fH_tr (fH_mo u4 (fun b q => by unfold laF scS scE at q; unfold fqP scS scE; omega)) (fH_tr (fH_mo f5 (fun b q => Or.inr (Or.inr (Or.inl (by omega))))) (fH_mo v3 (fun b q => by unfold fpP scS scE at q; unfold fqP scS scE; omega))))))⟩
  · rw [← hS1, r1, ob_s, t1, ob_s, h_shw hC hz1 h3 t2, ob2_s, u1, ob_s, stI_L 2 (by decide) (by decide), shw_rip hC]
    show f_X0_findPair_59 1200 5000 (nI (shw C z)) (nI 0) (ho_sI S4 65 2 (nI 100000)) = _
    rw [← hS5]
    exact v1
  · rw [← bth_o]
    obtain ⟨p, hp⟩ := prO_s (C := C) (z := z) (2 ^ cT C) (Nat.two_pow_pos _)
    rw [hp] at v2 ⊢
    obtain ⟨p1, p2, p3, p4⟩ := v2
    have : i = 0 ∨ i = 1 ∨ i = 2 ∨ i = 3 := by omega
    rcases this with rfl | rfl | rfl | rfl
    · exact p1
    · exact p2
    · exact p3
    · exact p4
theorem s_15 : sim_15 Sim := by
  intro x SH SM h
  have h' := h
  obtain ⟨X, cr, c, C, N, P, z, kl, ok, a, b, d, e, f⟩ := h'
  have ok' := ok
  obtain ⟨⟨hC, hz⟩, ⟨hP, hPz⟩, ok2⟩ := ok'
  obtain ⟨c1, ⟨c2, c3, c4, c5⟩, ⟨c6, c7, c8⟩, c9, c10⟩ := a.2.2.2.1
  obtain ⟨m1, mc, mn⟩ := e.2.2.2.1
  have y9 := hz.1
  unfold f_X11_both f_X12_both
  cases cr with
  | false =>
    rw [c1, m_ahd0 m1, ob2_s, if_pos rfl]
    exact ⟨_, SH, SM, rfl, rfl, h⟩
  | true =>
    rw [if_pos rfl] at c1 m1
    rw [c1, if_neg ne1, show f_X12_isAhead (2 : Int32) (2 : Int32) (2 : Int32) SM = _ from m_ahd (n := 2) (lo := 2) (hi := 2) m1 (f.1.1 0 (by decide)) y9 (by decide) (by decide) (by decide), ob2_s, b.1.2.1.1]
    have e2 : nI (z 0) + (2 : Int32) = nI (z 0 + 2) := nI_add _ _
    rw [e2]
    by_cases e1 : z 0 + 2 ≤ 999
    rotate_left
    · rw [if_neg (show ¬ (2 ≤ 2 ∧ 2 ≤ 2 ∧ z 0 + 2 ≤ 999) from fun q => e1 q.2.2), if_pos rfl, if_neg (fun q => e1 ((leL 999 (by omega) (by decide)).mp q))]
      refine ⟨-1, SH, SM, ?_, rfl, h⟩
      split
      · rfl
      · split <;> rfl
    rw [if_pos (show 2 ≤ 2 ∧ 2 ≤ 2 ∧ z 0 + 2 ≤ 999 from ⟨by decide, by decide, e1⟩), if_neg ne1, m_inL (n := 3) (by decide), ob2_s, if_pos ((leL 999 (by omega) (by decide)).mpr e1)]
    rcases ix3 x (n := 4) (by decide) with hx | ⟨j, hj, rfl⟩
    · rw [if_neg (ix_in5 (n := 3) (by decide) hx), if_pos rfl]
      refine ⟨-1, SH, SM, ?_, rfl, h⟩
      by_cases h0 : x < 0
      · rw [if_pos h0]
      · rw [if_neg h0, if_pos (show (4 : Int32) ≤ x from hx.resolve_left h0)]
    · obtain ⟨S1, r1, r2, r3, r4, r5⟩ := h_find hC hz e1 (c9 rfl) b d
      obtain ⟨M1, t1, t2, t3, t4, t5, t6⟩ := m_put hC f
      have mc1 : mC M1 C := mC_f mc t6 (fun b k q => by unfold crM; omega)
      obtain ⟨M2, u1, u2, u3⟩ := m_b41 hC hz e1 hj (2 ^ cT C) 0 5000 M1 (by omega) (by have hp : 2 ^ cT C ≤ 2 ^ 6 := Nat.pow_le_pow_right (by decide) hC.1.2.1; omega) mc1 t4 t3 t5 t2 (by rw [t6.1 0 52 (by first | decide | (dsimp only; omega) | omega)]; exact m1)
      rw [if_neg (nI_pos (by omega)), if_neg (show ¬ (4 : Int32) ≤ nI j from fun q => absurd ((geL 4 (by omega) (by decide)).mp q) (by omega)), r1, ob_s, ldI_n (by omega) (by decide), r2 j hj, if_pos ((in5 (by decide)).mpr ⟨j, by omega, rfl⟩), if_neg ne1, t1, ob_s, show f_X12_both_41 5000 (nI j) (-1 : Int32) (0 : Int32) (0 : Int32) (0 : Int32) (0 : Int32) M1 = _ from u1, bth_o]
      refine ⟨_, S1, M2, rfl, rfl, X, true, c, C, N, P, z, kl, ok, hA_f a r5 (fun b q x => ?_) ?_, hN_f b r5 (fun b q x => ?_), ⟨?_, Or.inr ⟨r3, rfl, e1, r2⟩⟩, mA_f e (fN_tr (fN_mo t6 (fun b k q => (show b = 56 ∨ pB2 b k by unfold pB2; omega))) (fN_mo u3 (fun b k q => Or.inr q))) (fun b k q => by unfold pB2 pBo goP eP at q; unfold sM; omega), u2⟩
      · unfold fqP scS scE at x; unfold hCl crC at q; omega
      · rw [r5.1 70 (by unfold fqP scS scE; omega)]
      · unfold fqP scS scE at x; omega
      · rcases d.1 with d1 | ⟨-, r, d1, d2, d3, d4, ⟨kl', d5⟩, d6⟩
        · exact Or.inl (by rw [r4]; exact d1)
        · refine Or.inr ⟨rfl, r, d1, d2, by rw [r4]; exact d3, stH_f d4 r5 (fun b q => by unfold fqP scS scE at q; omega), ⟨kl', kpH_f d5 r5 (by unfold fqP scS scE; omega) (by unfold fqP scS scE; omega)⟩, ?_⟩
          rw [r5.1 61 (by unfold fqP scS scE; omega), r5.1 62 (by unfold fqP scS scE; omega), r5.1 63 (by unfold fqP scS scE; omega), r5.1 64 (by unfold fqP scS scE; omega)]
          exact d6
