/-! level 2: alike answers: both, the reference's copying -/
theorem m_b75 {F : Int32 → Int32 → Int32 → Int32 → Int32 → Int32 → Hp → Option (Int32 × Hp)} {x1 x2 x3 x4 x5 x6 : Int32} : ∀ (d i K : Nat) (S : Hp), i + d = 26 → d < K → (∀ k, k < i → S.1 66 k = S.1 55 k) → ∃ S', f_X12_both_75 F K x1 x2 x3 x4 x5 x6 (nI i) S = f_X12_both_105 F 5000 x1 x2 x3 x4 x5 x6 (0 : Int32) S' ∧ (∀ k, k < 26 → S'.1 66 k = S.1 55 k) ∧ fN (fun b k => b = 66 ∧ k < 26) S S' := by
  intro d
  induction d with
  | zero =>
    intro i K S hi hK h
    obtain ⟨K, rfl⟩ : ∃ q, K = q + 1 := ⟨K - 1, by omega⟩
    exact ⟨S, by rw [f_X12_both_75, if_pos ((geL 26 (by omega) (by decide)).mpr (by omega))], fun k hk => h k (by omega), fN_rf _ S⟩
  | succ d ih =>
    intro i K S hi hK h
    obtain ⟨K, rfl⟩ : ∃ q, K = q + 1 := ⟨K - 1, by omega⟩
    have f1 : fN (fun b k => b = 66 ∧ k < 26) S (ho_sI S 66 i (S.1 55 i)) := fN_sI S ⟨rfl, by omega⟩
    obtain ⟨S', r1, r2, r3⟩ := ih (i + 1) K (ho_sI S 66 i (S.1 55 i)) (by omega) (by omega) (fun k hk => by
      rw [sI_ne _ (show 55 ≠ 66 by decide)]
      by_cases e : k = i
      · subst e; rw [sI_v]
      · rw [sI_k e]; exact h k (by omega))
    refine ⟨S', ?_, fun k hk => by rw [r2 k hk, sI_ne _ (by decide)], fN_tr f1 r3⟩
    rw [f_X12_both_75, if_neg (fun q => absurd ((geL 26 (by omega) (by decide)).mp q) (by omega)), ldI_n (by omega) (by decide), stI_n (by omega) (by decide), le1_e, nI_1]
    exact r1
theorem m_b199 {F : Int32 → Int32 → Int32 → Int32 → Int32 → Int32 → Hp → Option (Int32 × Hp)} {G : Int32 → Int32 → Int32 → Int32 → Int32 → Int32 → Int32 → Hp → Option (Int32 × Hp)} {x1 x2 x3 x4 x5 x6 x7 : Int32} : ∀ (d i K : Nat) (S : Hp), i + d = 26 → d < K → (∀ k, k < i → S.1 55 k = S.1 66 k) → ∃ S', f_X12_both_199 F G K x1 x2 x3 x4 x5 x6 x7 (nI i) S = f_X12_both_226 F G x1 x2 x3 x4 x5 x6 x7 S' ∧ (∀ k, k < 26 → S'.1 55 k = S.1 66 k) ∧ fN (fun b k => b = 55 ∧ k < 26) S S' := by
  intro d
  induction d with
  | zero =>
    intro i K S hi hK h
    obtain ⟨K, rfl⟩ : ∃ q, K = q + 1 := ⟨K - 1, by omega⟩
    exact ⟨S, by rw [f_X12_both_199, if_pos ((geL 26 (by omega) (by decide)).mpr (by omega))], fun k hk => h k (by omega), fN_rf _ S⟩
  | succ d ih =>
    intro i K S hi hK h
    obtain ⟨K, rfl⟩ : ∃ q, K = q + 1 := ⟨K - 1, by omega⟩
    have f1 : fN (fun b k => b = 55 ∧ k < 26) S (ho_sI S 55 i (S.1 66 i)) := fN_sI S ⟨rfl, by omega⟩
    obtain ⟨S', r1, r2, r3⟩ := ih (i + 1) K (ho_sI S 55 i (S.1 66 i)) (by omega) (by omega) (fun k hk => by
      rw [sI_ne _ (show 66 ≠ 55 by decide)]
      by_cases e : k = i
      · subst e; rw [sI_v]
      · rw [sI_k e]; exact h k (by omega))
    refine ⟨S', ?_, fun k hk => by rw [r2 k hk, sI_ne _ (by decide)], fN_tr f1 r3⟩
    rw [f_X12_both_199, if_neg (fun q => absurd ((geL 26 (by omega) (by decide)).mp q) (by omega)), ldI_n (by omega) (by decide), stI_n (by omega) (by decide), le1_e, nI_1]
    exact r1
/-- the best pair, as the reference holds it -/
def oB : Pr → Nat → Int32
  | none, i => if i = 0 then -1 else 0
  | some p, i => nI (if i = 0 then p.1 else if i = 1 then p.2.1 else if i = 2 then p.2.2.1 else p.2.2.2)
