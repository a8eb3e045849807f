/-! level 2: alike answers: both, the class's first shows -/
theorem okZ_0 {C : Cr} {z : Nat → Nat} {v : Nat} (hz : okZ C z) (hv : v ≤ 999) : okZ C (zup z 0 v) := by
  obtain ⟨z0, z1, z2, z3, z4, z5, z6, z7, z8⟩ := hz
  refine ⟨by rw [zup_s]; exact hv, by rw [zup_n (by decide)]; exact z1, by rw [zup_n (by decide)]; exact z2, fun p hp => by rw [zup_n (by omega)]; exact z3 p hp, fun p hp => by rw [zup_n (by omega)]; exact z4 p hp, fun p hp => by rw [zup_n (by omega)]; exact z5 p hp, fun p hp => by rw [zup_n (by omega)]; exact z6 p hp, fun p h1 hp => by rw [zup_n (by omega)]; exact z7 p h1 hp, fun p h1 hp => by rw [zup_n (by omega), zup_n (by omega)]; exact z8 p h1 hp⟩
theorem okZ_9 {C : Cr} {z : Nat → Nat} {t v : Nat} (hz : okZ C z) (ht : t < cT C) (h6 : cT C ≤ 6) (hv : v ≤ 9999) : okZ C (zup z (9 + t) v) := by
  obtain ⟨z0, z1, z2, z3, z4, z5, z6, z7, z8⟩ := hz
  refine ⟨by rw [zup_n (by omega)]; exact z0, by rw [zup_n (by omega)]; exact z1, by rw [zup_n (by omega)]; exact z2, fun p hp => by rw [zup_n (by omega)]; exact z3 p hp, fun p hp => ?_, fun p hp => by rw [zup_n (by omega)]; exact z5 p hp, fun p hp => by rw [zup_n (by omega)]; exact z6 p hp, fun p h1 hp => by rw [zup_n (by omega)]; exact z7 p h1 hp, fun p h1 hp => by rw [zup_n (by omega), zup_n (by omega)]; exact z8 p h1 hp⟩
  by_cases e : p = t
  · subst e; rw [zup_s]; exact hv
  · rw [zup_n (by omega)]; exact z4 p hp
def laF (c b : Nat) : Prop := scS c b ∨ (66 ≤ b ∧ b ≤ 68) ∨ (1240 ≤ b ∧ b ≤ 1245)
theorem s1240 : 1240 ∈ yH.1 ∧ yH.2.1 1240 = (1, 9) := ⟨memH (by decide) (by decide), rfl⟩
theorem s1230 : 1230 ∈ yH.1 ∧ yH.2.1 1230 = (1, 9) := ⟨memH (by decide) (by decide), rfl⟩
def laU (C : Cr) (z : Nat → Nat) (t : Nat) : Nat := sgT C (zup z 0 (z 0 + 1)) t
def laG (C : Cr) (z : Nat → Nat) (t : Nat) : Nat := sgT C (zup (zup z 0 (z 0 + 1)) (9 + t) (min 9999 (z (9 + t) + 1))) t
theorem h_la31 {c : Nat} {C : Cr} {z : Nat → Nat} {kl : List Nat} (hC : okCr C) (hz : okZ C z) (hy : z 0 < 999) : ∀ (d i K : Nat) (S : Hp), i + d = 6 → d < K → cH S c C → stH S 1230 C z → kpH S 1230 kl → (∀ t, t < i → (shw C z).testBit t = true → S.1 67 t = nI (laU C z t) ∧ S.1 68 t = nI (laG C z t)) → ∃ S', f_X0_lookAhead_31 K (nI (shw C z)) (nI i) S = some S' ∧ (∀ t, (shw C z).testBit t = true → S'.1 67 t = nI (laU C z t) ∧ S'.1 68 t = nI (laG C z t)) ∧ fH (fun b => scS c b ∨ (67 ≤ b ∧ b ≤ 68) ∨ (1240 ≤ b ∧ b ≤ 1245)) S S' := by
  have h64 := shw_64 hC z
  have hnt := hC.1.2.1
  intro d
  induction d with
  | zero =>
    intro i K S hi hK h hs hk hg
    obtain ⟨K, rfl⟩ : ∃ q, K = q + 1 := ⟨K - 1, by omega⟩
    exact ⟨S, by rw [f_X0_lookAhead_31, if_pos ((geL 6 (by omega) (by decide)).mpr (by omega))], fun t ht => hg t (by have := (shw_bit.mp ht).2.1; omega) ht, fH_rf _ S⟩
  | succ d ih =>
    intro i K S hi hK h hs hk hg
    obtain ⟨K, rfl⟩ : ∃ q, K = q + 1 := ⟨K - 1, by omega⟩
    have hcc := cH_c h
    have h132 : ∀ Sx, f_X0_lookAhead_132 (f_X0_lookAhead_31 K) (nI (shw C z)) (nI i) Sx = f_X0_lookAhead_31 K (nI (shw C z)) (nI (i + 1)) Sx := by
      intro Sx
      unfold f_X0_lookAhead_132
      rw [le1_e, nI_1]
    rw [f_X0_lookAhead_31, if_neg (fun q => absurd ((geL 6 (by omega) (by decide)).mp q) (by omega))]
    by_cases hb : (shw C z).testBit i = true
    rotate_left
    · rw [if_neg (fun q => hb ((bit_at1 h64 (by omega)).mp q)), h132]
      refine ih (i + 1) K S (by omega) (by omega) h hs hk (fun t ht q => ?_)
      by_cases e : t = i
      · subst e; exact absurd q hb
      · exact hg t (by omega) q
    have hi6 := (shw_bit.mp hb).2.1
    obtain ⟨S1, r1, r2, r3, r4⟩ := h_copy s1240 (by decide) hs hk hC.1.2.2
    have h1 : cH S1 c C := cH_f h r4 (fun b q => by unfold crC; omega)
    obtain ⟨S2, hS2⟩ : ∃ S2, S2 = ho_sI S1 1240 0 (nI (z 0 + 1)) := ⟨_, rfl⟩
    have f2 : fH (fun b => b = 1240) S1 S2 := by rw [hS2]; exact fH_sI S1 rfl (by decide)
    have h2 : cH S2 c C := cH_f h1 f2 (fun b q => by unfold crC; omega)
    have s2 : stH S2 1240 C (zup z 0 (z 0 + 1)) := by rw [hS2]; exact stH_f0 r2 (by decide)
    have z2 : okZ C (zup z 0 (z 0 + 1)) := okZ_0 hz (by omega)
    obtain ⟨S3, t1, t2⟩ := h_sT hC z2 hi6 h2 s2
    have h3 := cH_e h2 t2
    have s3 := stH_e h2 s2 t2
    obtain ⟨S4, hS4⟩ : ∃ S4, S4 = ho_sI S3 67 i (nI (laU C z i)) := ⟨_, rfl⟩
    have f4 : fH (fun b => b = 67) S3 S4 := by rw [hS4]; exact fH_sI S3 rfl (by decide)
    have h4 : cH S4 c C := cH_f h3 f4 (fun b q => by unfold crC; omega)
    have s4 : stH S4 1240 C (zup z 0 (z 0 + 1)) := stH_f s3 f4 (fun b q => by omega)
    have e4 : S4.1 1242 i = nI (z (9 + i)) := by
      have := (s4.2.2.1 i (by omega)).2.1
      rw [zup_n (by omega)] at this
      exact this
    obtain ⟨S7, hS7⟩ : ∃ S7, S7 = ho_sI S4 1242 i (nI (min 9999 (z (9 + i) + 1))) := ⟨_, rfl⟩
    have f7 : fH (fun b => b = 1242) S4 S7 := by rw [hS7]; exact fH_sI S4 rfl (by decide)
    have h7 : cH S7 c C := cH_f h4 f7 (fun b q => by unfold crC; omega)
    have s7 : stH S7 1240 C (zup (zup z 0 (z 0 + 1)) (9 + i) (min 9999 (z (9 + i) + 1))) := by
      rw [hS7]; exact stH_r (x := 2) (t := i) (v := min 9999 (z (9 + i) + 1)) s4 (Or.inr (Or.inl rfl)) (by omega)
    obtain ⟨S8, u1, u2⟩ := h_sT hC (okZ_9 z2 hi6 hnt (Nat.min_le_left _ _)) hi6 h7 s7
    obtain ⟨S9, hS9⟩ : ∃ S9, S9 = ho_sI S8 68 i (nI (laG C z i)) := ⟨_, rfl⟩
    have f9 : fH (fun b => b = 68) S8 S9 := by rw [hS9]; exact fH_sI S8 rfl (by decide)
    have fT : fH (fun b => scS c b ∨ (67 ≤ b ∧ b ≤ 68) ∨ (1240 ≤ b ∧ b ≤ 1245)) S S9 := by
      refine fH_tr (fH_mo r4 (fun b q => Or.inr (Or.inr q))) (fH_tr (fH_mo f2 (fun b q => by omega)) (fH_tr (fH_mo t2 (fun b q => Or.inl (Or.inl q))) (fH_tr (fH_mo f4 (fun b q => by omega)) (fH_tr (fH_mo f7 (fun b q => by omega)) (fH_tr (fH_mo u2 (fun b q => Or.inl (Or.inl q))) (fH_mo f9 (fun b q => by omega)))))))
    have e67 : ∀ t, S9.1 67 t = (if t = i then nI (laU C z i) else S.1 67 t) := by
      intro t
      rw [f9.1 67 (by first | decide | (dsimp only; omega) | omega), u2.1 67 (by unfold scE; omega), f7.1 67 (by first | decide | (dsimp only; omega) | omega), hS4]
      by_cases e : t = i
      · subst e; rw [sI_v, if_pos rfl]
      · rw [sI_k e, if_neg e, t2.1 67 (by unfold scE; omega), f2.1 67 (by first | decide | (dsimp only; omega) | omega), r4.1 67 (by first | decide | (dsimp only; omega) | omega)]
    have e68 : ∀ t, S9.1 68 t = (if t = i then nI (laG C z i) else S.1 68 t) := by
      intro t
      rw [hS9]
      by_cases e : t = i
      · subst e; rw [sI_v, if_pos rfl]
      · rw [sI_k e, if_neg e, u2.1 68 (by unfold scE; omega), f7.1 68 (by first | decide | (dsimp only; omega) | omega), f4.1 68 (by first | decide | (dsimp only; omega) | omega), t2.1 68 (by unfold scE; omega), f2.1 68 (by first | decide | (dsimp only; omega) | omega), r4.1 68 (by first | decide | (dsimp only; omega) | omega)]
    obtain ⟨S', q1, q2, q3⟩ := ih (i + 1) K S9 (by omega) (by omega) (cH_f h fT (fun b q => by unfold scS scE at q; unfold crC; omega)) (stH_f hs fT (fun b q => by unfold scS scE at q; omega)) (kpH_f hk fT (by unfold scS scE; omega) (by unfold scS scE; omega)) (fun t ht q => by
      rw [e67, e68]
      by_cases e : t = i
      · subst e; rw [if_pos rfl, if_pos rfl]; exact ⟨rfl, rfl⟩
      · rw [if_neg e, if_neg e]; exact hg t (by omega) q)
    refine ⟨S', ?_, q2, fH_tr fT q3⟩
    rw [if_pos ((bit_at1 h64 (by omega)).mpr hb), r1, ob_s, le1_e, r2.2.1.1, nI_1, ← hS2, t1, ob2_s, stI_n (by omega) (by decide)]
    rw [show nI (sgT C (zup z 0 (z 0 + 1)) i) = nI (laU C z i) from rfl, ← hS4, ldI_n (by omega) (by decide), e4, h_mn, ob2_s, lit_nI 9999, nI_1, mn_n (by decide) (by have := hz.2.2.2.2.1 i (by omega); omega), stI_n (by omega) (by decide), ← hS7, u1, ob2_s, stI_n (by omega) (by decide)]
    rw [show nI (sgT C (zup (zup z 0 (z 0 + 1)) (9 + i) (min 9999 (z (9 + i) + 1))) i) = nI (laG C z i) from rfl, ← hS9, h132]
    exact q1
theorem h_la {S : Hp} {c : Nat} {C : Cr} {z : Nat → Nat} {kl : List Nat} (hC : okCr C) (hz : okZ C z) (hy : z 0 < 999) (h : cH S c C) (hs : stH S 1230 C z) (hk : kpH S 1230 kl) : ∃ S', f_X0_lookAhead (nI (shw C z)) S = some S' ∧ (∀ t, t < cT C → S'.1 66 t = nI (sr C z (shw C z) t)) ∧ (∀ t, (shw C z).testBit t = true → S'.1 67 t = nI (laU C z t) ∧ S'.1 68 t = nI (laG C z t)) ∧ fH (laF c) S S' := by
  have hcc := cH_c h
  have hnt := hC.1.2.1
  obtain ⟨S1, r1, r2, r3⟩ := h_look hC hz h hs
  have h1 := cH_l h r3
  have s1 := stH_l h hs r3
  have k1 : kpH S1 1230 kl := kpH_f hk r3 (by unfold scL scE; omega) (by unfold scL scE; omega)
  obtain ⟨S2, hS2⟩ : ∃ S2, S2 = ho_sA S1 66 (fun p => if p < 6 then S1.1 51 p else S1.1 66 p) := ⟨_, rfl⟩
  have f2 : fH (fun b => b = 66) S1 S2 := by rw [hS2]; exact fH_sA S1 rfl (by decide)
  obtain ⟨S3, q1, q2, q3⟩ := h_la31 (kl := kl) hC hz hy 6 0 5000 S2 (by decide) (by decide) (cH_f h1 f2 (fun b q => by unfold crC; omega)) (stH_f s1 f2 (fun b q => by omega)) (kpH_f k1 f2 (by first | decide | (dsimp only; omega) | omega) (by first | decide | (dsimp only; omega) | omega)) (fun t ht => absurd ht (Nat.not_lt_zero t))
  refine ⟨S3, ?_, fun t ht => ?_, q2, fH_tr (fH_mo r3 (fun b q => Or.inl (by unfold scL scE at q; unfold scS scE; omega))) (fH_tr (fH_mo f2 (fun b q => Or.inr (Or.inl (by omega)))) (fH_mo q3 (fun b q => by unfold scS scE at q; unfold laF scS scE; omega)))⟩
  · unfold f_X0_lookAhead
    rw [r1, ob_s, lit_nI 6, cpI_0 (by decide) (by decide) (by decide), ← hS2]
    exact q1
  · rw [q3.1 66 (by unfold scS scE; omega), hS2, sA_at, if_pos (by omega)]
    exact r2 t ht
