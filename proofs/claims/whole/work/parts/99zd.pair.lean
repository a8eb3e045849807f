/-! level 2: alike answers: both, the class's glimpses of the second show -/
theorem h_pw2 {s : Nat} (hs : s < 64) : ∀ (d i K : Nat) (S : Hp), i + d = 6 → d < K → ∃ S', f_X0_pairWith_2 K (nI s) (nI i) S = ob2 (f_X8_showable 1240 S') (fun r1 S1 => f_X0_pairWith_58 5000 (nI s) r1 (0 : Int32) S1) ∧ (∀ t, i ≤ t → t < 6 → S'.1 69 t = if s.testBit t then S.1 68 t else S.1 67 t) ∧ (∀ t, t < i → S'.1 69 t = S.1 69 t) ∧ fH (fun b => b = 69) S S' := by
  intro d
  induction d with
  | zero =>
    intro i K S hi hK
    obtain ⟨K, rfl⟩ : ∃ q, K = q + 1 := ⟨K - 1, by omega⟩
    exact ⟨S, by rw [f_X0_pairWith_2, if_pos ((geL 6 (by omega) (by decide)).mpr (by omega))], fun t h1 h2 => absurd h1 (by omega), fun _ _ => rfl, fH_rf _ S⟩
  | succ d ih =>
    intro i K S hi hK
    obtain ⟨K, rfl⟩ : ∃ q, K = q + 1 := ⟨K - 1, by omega⟩
    have h37 : ∀ v, f_X0_pairWith_37 (f_X0_pairWith_2 K) (nI s) (nI i) (nI i) v S = f_X0_pairWith_2 K (nI s) (nI (i + 1)) (ho_sI S 69 i v) := fun v => by
      unfold f_X0_pairWith_37
      rw [stI_n (by omega) (by decide), le1_e, nI_1]
    obtain ⟨S', r1, r2, r3, r4⟩ := ih (i + 1) K (ho_sI S 69 i (if s.testBit i then S.1 68 i else S.1 67 i)) (by omega) (by omega)
    refine ⟨S', ?_, fun t h1 h2 => ?_, fun t ht => by rw [r3 t (by omega), sI_k (by omega)], fH_tr (fH_sI S rfl (by decide)) r4⟩
    · rw [f_X0_pairWith_2, if_neg (fun q => absurd ((geL 6 (by omega) (by decide)).mp q) (by omega)), bit_at s hs i (by omega), ldI_n (by omega) (by decide), ldI_n (by omega) (by decide), h37, h37, ← r1]
      by_cases e : s.testBit i = true
      · rw [if_pos e, if_pos rfl, if_pos e]
      · rw [if_neg e, if_neg (show ¬ (0 : Int32) = 1 by decide), if_neg e]
    · by_cases e : t = i
      · subst e; rw [r3 t (by omega), sI_v]
      · rw [r2 t (by omega) h2, sI_ne _ (by decide), sI_ne _ (by decide)]
