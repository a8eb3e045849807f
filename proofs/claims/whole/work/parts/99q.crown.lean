/-! level 2: alike answers: a new crown -/
theorem h_so28 {c np : Nat} {g : Nat → Nat} (hc : c = 100 ∨ c = 150) (hnp : np ≤ 6) : ∀ (d i K : Nat) (S : Hp), i + d = 6 → d < K → S.1 (c + 1) 0 = nI np → (∀ p, p < np → S.1 (c + 6) p = nI (g p)) → ∃ S', f_X9_startOf_28 1200 c K (nI i) S = some S' ∧ (∀ p, i ≤ p → p < 6 → S'.1 1201 p = nI (if p < np then g p else 0)) ∧ (∀ p, p < i → S'.1 1201 p = S.1 1201 p) ∧ (∀ p, p < 6 → S'.1 1202 p = nI 0 ∧ S'.1 1203 p = nI 0) ∧ (∀ w, w < 5 → S'.1 1204 w = S.1 (c + 11) w) ∧ fH (fun b => 1201 ≤ b ∧ b ≤ 1204) S S' := by
  intro d
  induction d with
  | zero =>
    intro i K S hi hK h1 h6
    obtain ⟨K, rfl⟩ : ∃ q, K = q + 1 := ⟨K - 1, by omega⟩
    obtain ⟨S1, hS1⟩ : ∃ S1, S1 = ho_sA S 1202 (fun j => if j < 6 then 0 else S.1 1202 j) := ⟨_, rfl⟩
    obtain ⟨S2, hS2⟩ : ∃ S2, S2 = ho_sA S1 1203 (fun j => if j < 6 then 0 else S1.1 1203 j) := ⟨_, rfl⟩
    obtain ⟨S3, hS3⟩ : ∃ S3, S3 = ho_sA S2 1204 (fun p => if p < 5 then S2.1 (c + 11) p else S2.1 1204 p) := ⟨_, rfl⟩
    have f1 : fH (fun b => b = 1202) S S1 := by rw [hS1]; exact fH_sA S rfl (by decide)
    have f2 : fH (fun b => b = 1203) S1 S2 := by rw [hS2]; exact fH_sA S1 rfl (by decide)
    have f3 : fH (fun b => b = 1204) S2 S3 := by rw [hS3]; exact fH_sA S2 rfl (by decide)
    have e1 : f_J7_fill_53178 1202 6 (0 : Int32) S = some S1 := by rw [hS1]; exact h_fillF (by decide)
    have e2 : f_J7_fill_53178 1203 6 (0 : Int32) S1 = some S2 := by rw [hS2]; exact h_fillF (by decide)
    have a1 : S1.1 1202 = fun j => if j < 6 then 0 else S.1 1202 j := by rw [hS1]; exact sA_at _ _ _
    have a2 : S2.1 1203 = fun j => if j < 6 then 0 else S1.1 1203 j := by rw [hS2]; exact sA_at _ _ _
    have a3 : S3.1 1204 = fun p => if p < 5 then S2.1 (c + 11) p else S2.1 1204 p := by rw [hS3]; exact sA_at _ _ _
    refine ⟨S3, ?_, fun p q1 q2 => absurd q1 (by omega), fun p hp => by rw [f3.1 1201 (by decide), f2.1 1201 (by decide), f1.1 1201 (by decide)], fun p hp => ?_, fun w hw => ?_, fH_tr (fH_mo f1 (fun b q => by omega)) (fH_tr (fH_mo f2 (fun b q => by omega)) (fH_mo f3 (fun b q => by omega)))⟩
    · rw [f_X9_startOf_28, if_pos ((geL 6 (by omega) (by decide)).mpr (by omega)), e1, ob_s, e2, ob_s, show cpI S2 (c + 11) 5 (0 : Int32) (1200 + 4) 5 (0 : Int32) (5 : Int32) (fun S3 => some S3) = _ from cpI_0 (n := 5) (by decide) (by decide) (by decide), hS3]
    · rw [f3.1 1202 (by decide), f2.1 1202 (by decide), a1, f3.1 1203 (by decide), a2]
      exact ⟨if_pos hp, if_pos hp⟩
    · rw [a3]
      show (if w < 5 then S2.1 (c + 11) w else _) = _
      rw [if_pos hw, f2.1 _ (by first | decide | (dsimp only; omega) | omega), f1.1 _ (by first | decide | (dsimp only; omega) | omega)]
  | succ d ih =>
    intro i K S hi hK h1 h6
    obtain ⟨K, rfl⟩ : ∃ q, K = q + 1 := ⟨K - 1, by omega⟩
    obtain ⟨S', r1, r2, r3, r4, r5, r6⟩ := ih (i + 1) K (ho_sI S 1201 i (nI (if i < np then g i else 0))) (by omega) (by omega) (by rw [sI_ne _ (by omega)]; exact h1) (fun p hp => by rw [sI_ne _ (by omega)]; exact h6 p hp)
    refine ⟨S', ?_, fun p q1 q2 => ?_, fun p hp => by rw [r3 p (by omega), sI_k (by omega)], r4, fun w hw => by rw [r5 w hw, sI_ne _ (by omega)], fH_tr (fH_sI S (by first | decide | (dsimp only; omega) | omega) (by decide)) r6⟩
    · rw [f_X9_startOf_28, if_neg (fun q => absurd ((geL 6 (by omega) (by decide)).mp q) (by omega))]
      have h58 : ∀ v, f_X9_startOf_58 (f_X9_startOf_28 1200 c K) 1200 c (nI i) (nI i) v S = f_X9_startOf_28 1200 c K (nI (i + 1)) (ho_sI S 1201 i v) := fun v => by
        unfold f_X9_startOf_58
        rw [stI_n (by omega) (by decide), le1_e, nI_1]
      by_cases e : i < np
      · rw [show f_X2_holds c (0 : Int32) (nI i) S = _ from h_hY (k := 0) (by decide) h1 hnp e, ob2_s, if_neg ne1, ldI_n (by omega) (by decide), h6 i e, h58]
        rw [if_pos e] at r1
        exact r1
      · rw [show f_X2_holds c (0 : Int32) (nI i) S = _ from h_hN (k := 0) (by decide) h1 hnp (Or.inr (nI_le (by omega) (by omega))), ob2_s, if_pos rfl, h58]
        rw [if_neg e] at r1
        exact r1
    · by_cases e : p = i
      · subst e; rw [r3 p (by omega), sI_v]
      · exact r2 p (by omega) q2
theorem h_start {S : Hp} {c : Nat} {D : Dr} (h : dD S c D) (ho : okD D) : ∃ S', f_X9_startOf 1200 c S = some S' ∧ stH S' 1200 (crO D) (z0 D) ∧ kpH S' 1200 [] ∧ fH (fun b => 1200 ≤ b ∧ b ≤ 1204) S S' := by
  obtain ⟨⟨np, nt, nw⟩, R, N, se, lo⟩ := D
  have h' : dE S c np nt nw R N se lo := h
  have ho' : okE np nt nw R N se lo := ho
  have hc := dE_c h'
  obtain ⟨⟨o1, o2, o3⟩, oo⟩ := ho'
  obtain ⟨d1, ⟨d2, d3, d4⟩, ⟨x0, x1, x2, x3, x4⟩, d5, d6, d7, d8⟩ := h'
  obtain ⟨S4, hS4⟩ : ∃ S4, S4 = ho_sI (ho_sI (ho_sI (ho_sI S 1200 0 (0 : Int32)) 1200 1 (nI (R 0 3))) 1200 2 (nI (R 0 4))) 1200 7 (0 : Int32) := ⟨_, rfl⟩
  have f4 : fH (fun b => b = 1200) S S4 := by
    rw [hS4]
    exact fH_tr (fH_sI S rfl (by decide)) (fH_tr (fH_sI _ rfl (by decide)) (fH_tr (fH_sI _ rfl (by decide)) (fH_sI _ rfl (by decide))))
  obtain ⟨S', r1, r2, r3, r4, r5, r6⟩ := h_so28 (np := np) (g := R 6) hc o1 6 0 5000 S4 (by omega) (by omega) (by rw [f4.1 _ (by first | decide | (dsimp only; omega) | omega)]; exact d2) (fun p hp => by rw [f4.1 _ (by first | decide | (dsimp only; omega) | omega)]; exact (d5 p hp).1)
  have e12 : S'.1 1200 = S4.1 1200 := r6.1 1200 (by first | decide | (dsimp only; omega) | omega)
  have zz : ∀ k, z0 ((np, nt, nw), R, N, se, lo) k = if k = 1 then R 0 3 else if k = 2 then R 0 4 else if 3 ≤ k ∧ k < 3 + np then R 6 (k - 3) else if 21 ≤ k ∧ k < 21 + nw then R 7 (k - 21) else 0 := fun _ => rfl
  have ew : cW (crO ((np, nt, nw), R, N, se, lo)) = nw := rfl
  refine ⟨S', ?_, ⟨⟨memH (by decide) (by decide), rfl⟩, ⟨?_, ?_, ?_⟩, fun p hp => ⟨?_, ?_, ?_⟩, fun w hw => ?_⟩, ⟨⟨0, by omega, rfl⟩, ?_, fun j hj => absurd hj (Nat.not_lt_zero j)⟩, fH_tr (fH_mo f4 (fun b q => by omega)) (fH_mo r6 (fun b q => by omega))⟩
  · unfold f_X9_startOf
    rw [le1_e, sI_ne _ (by omega), x1, le1_e, sI_ne _ (by omega), sI_ne _ (by omega), x3, le1_e, le1_e, ← hS4]
    exact r1
  · rw [e12, hS4, sI_k (by decide), sI_k (by decide), sI_k (by decide), sI_v, zz, if_neg (by decide), if_neg (by decide), if_neg (by omega), if_neg (by omega)]; rfl
  · rw [e12, hS4, sI_k (by decide), sI_k (by decide), sI_v, zz, if_pos rfl]
  · rw [e12, hS4, sI_k (by decide), sI_v, zz, if_neg (by decide), if_pos rfl]
  · rw [r2 p (by omega) hp, zz, if_neg (show ¬ 3 + p = 1 by omega), if_neg (show ¬ 3 + p = 2 by omega)]
    by_cases e : p < np
    · rw [if_pos e, if_pos (show 3 ≤ 3 + p ∧ 3 + p < 3 + np by omega), show 3 + p - 3 = p by omega]
    · rw [if_neg e, if_neg (show ¬ (3 ≤ 3 + p ∧ 3 + p < 3 + np) by omega), if_neg (by omega)]
  · rw [(r4 p hp).1, zz, if_neg (by omega), if_neg (by omega), if_neg (by omega), if_neg (by omega)]
  · rw [(r4 p hp).2, zz, if_neg (by omega), if_neg (by omega), if_neg (by omega), if_neg (by omega)]
  · rw [ew] at hw
    rw [r5 w (by omega), f4.1 _ (by first | decide | (dsimp only; omega) | omega), (d7 w hw).1, zz, if_neg (by omega), if_neg (by omega), if_neg (by omega), if_pos (by omega), show 21 + w - 21 = w by omega]
  · rw [e12, hS4, sI_v]; rfl
