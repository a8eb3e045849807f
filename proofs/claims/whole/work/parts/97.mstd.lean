/-! level 2: the reference: a crown stands -/
theorem okF_44 : okF 0 [44] := by
  refine ⟨by simp, fun c hc => ?_, fun pf qf hp => ⟨pf 4, hp 4, rfl⟩⟩
  simp at hc
  unfold alw
  omega
theorem okF_10 : okF 1 [1010] := by
  refine ⟨by simp, fun c hc => ?_, fun pf qf hp => ⟨10, by unfold inM; omega, rfl⟩⟩
  simp at hc
  unfold alw
  omega
/-- the crown that a text told -/
def crO (D : Dr) : Cr := (D.1, D.2.1, D.2.2.2.1.getD [44], D.2.2.2.2.getD [1010])
/-- its state at first -/
def z0 (D : Dr) (k : Nat) : Nat := if k = 1 then D.2.1 0 3 else if k = 2 then D.2.1 0 4 else if 3 ≤ k ∧ k < 3 + D.1.1 then D.2.1 6 (k - 3) else if 21 ≤ k ∧ k < 21 + D.1.2.2 then D.2.1 7 (k - 21) else 0
theorem crO_ok {D : Dr} (h : okD D) : okCr (crO D) := by
  obtain ⟨⟨np, nt, nw⟩, R, N, se, lo⟩ := D
  have h' : okE np nt nw R N se lo := h
  obtain ⟨a1, ⟨x0, x1, x2, x3, x4⟩, a3, a4, a5, a6, a7, a8⟩ := h'
  refine ⟨a1, ⟨x0, x1, x2⟩, fun p hp => (a3 p hp).1, fun t ht => a4 t ht, fun w hw => (a5 w hw).1, ?_, ?_⟩
  · show okF 0 (se.getD [44])
    cases se with
    | none => exact okF_44
    | some cs => exact a7 cs rfl
  · show okF 1 (lo.getD [1010])
    cases lo with
    | none => exact okF_10
    | some cs => exact a8 cs rfl
theorem z0_ok {D : Dr} (h : okD D) : okZ (crO D) (z0 D) := by
  obtain ⟨⟨np, nt, nw⟩, R, N, se, lo⟩ := D
  have h' : okE np nt nw R N se lo := h
  obtain ⟨⟨b1, b2, b3⟩, ⟨x0, x1, x2, x3, x4⟩, a3, a4, a5, a6, a7, a8⟩ := h'
  have e : ∀ k, z0 ((np, nt, nw), R, N, se, lo) k = if k = 1 then R 0 3 else if k = 2 then R 0 4 else if 3 ≤ k ∧ k < 3 + np then R 6 (k - 3) else if 21 ≤ k ∧ k < 21 + nw then R 7 (k - 21) else 0 := fun _ => rfl
  have eP : cP (crO ((np, nt, nw), R, N, se, lo)) = np := rfl
  have eT : cT (crO ((np, nt, nw), R, N, se, lo)) = nt := rfl
  have eW : cW (crO ((np, nt, nw), R, N, se, lo)) = nw := rfl
  unfold okZ
  simp only [e, eP, eT, eW]
  refine ⟨?_, ?_, ?_, fun p hp => ?_, fun p hp => ?_, fun p hp => ?_, fun p hp => ?_, fun p hp hp2 => ?_, fun p hp hp2 => ⟨?_, ?_⟩⟩
  · rw [if_neg (by decide), if_neg (by decide), if_neg (by omega), if_neg (by omega)]; omega
  · rw [if_pos trivial]; omega
  · rw [if_neg (by decide), if_pos trivial]; omega
  · rw [if_neg (by omega), if_neg (by omega)]
    split
    · have := (a3 (3 + p - 3) (by omega)).2; omega
    · rw [if_neg (by omega)]; omega
  · rw [if_neg (by omega), if_neg (by omega), if_neg (by omega), if_neg (by omega)]; omega
  · rw [if_neg (by omega), if_neg (by omega), if_neg (by omega), if_neg (by omega)]; omega
  · rw [if_neg (by omega), if_neg (by omega), if_neg (by omega), if_pos (by omega)]
    have := (a5 (21 + p - 21) (by omega)).2; omega
  · rw [if_neg (by omega), if_neg (by omega), if_neg (by omega), if_neg (by omega)]
  · rw [if_neg (by omega), if_neg (by omega), if_neg (by omega), if_neg (by omega)]
  · rw [if_neg (by omega), if_neg (by omega), if_neg (by omega), if_neg (by omega)]
theorem st_7 : ∀ (d i K : Nat) (S : Hp), i + d = 3 → d < K → ∃ S', f_X12_stands_7 K (nI i) S = f_X12_stands_48 5000 (0 : Int32) S' ∧ (∀ k, i ≤ k → k < 3 → S'.1 41 (3 + k) = S.1 41 k ∧ S'.1 43 (3 + k) = S.1 43 k) ∧ fM (fun b k => (b = 41 ∧ 3 + i ≤ k ∧ k < 3 + 3) ∨ (b = 43 ∧ 3 + i ≤ k ∧ k < 3 + 3)) S S' := by
  intro d
  induction d with
  | zero =>
    intro i K S hi hK
    obtain ⟨K, rfl⟩ : ∃ q, K = q + 1 := ⟨K - 1, by omega⟩
    exact ⟨S, by rw [f_X12_stands_7, if_pos ((geL 3 (by omega) (by decide)).mpr (by omega))], fun k h1 h2 => absurd h2 (by omega), fM_rf _ S⟩
  | succ d ih =>
    intro i K S hi hK
    obtain ⟨K, rfl⟩ : ∃ q, K = q + 1 := ⟨K - 1, by omega⟩
    have f1 : fM (fun b k => (b = 41 ∧ 3 + i ≤ k ∧ k < 3 + 3) ∨ (b = 43 ∧ 3 + i ≤ k ∧ k < 3 + 3)) S (ho_sI (ho_sI S 41 (3 + i) (S.1 41 i)) 43 (3 + i) (S.1 43 i)) := fM_tr (fM_sI S (by omega)) (fM_sI _ (by omega))
    obtain ⟨S', a1, a2, a3⟩ := ih (i + 1) K (ho_sI (ho_sI S 41 (3 + i) (S.1 41 i)) 43 (3 + i) (S.1 43 i)) (by omega) (by omega)
    refine ⟨S', ?_, fun k h1 h2 => ?_, fM_tr f1 (fM_mo a3 (fun b k q => by omega))⟩
    · rw [f_X12_stands_7, if_neg (fun q => absurd ((geL 3 (by omega) (by decide)).mp q) (by omega)), ldI_n (by omega) (by decide), lit_nI 3, nI_add, stI_n (by omega) (by decide), ldI_n (by omega) (by decide), sI_ne _ (by decide), stI_n (by omega) (by decide), le1_e, nI_1]
      exact a1
    · by_cases e : k = i
      · subst e
        exact ⟨by rw [a3.1 _ _ (by first | decide | (dsimp only; omega) | omega), sI_ne _ (by decide), sI_v], by rw [a3.1 _ _ (by first | decide | (dsimp only; omega) | omega), sI_v]⟩
      · exact ⟨(a2 k (by omega) h2).1.trans (by rw [sI_ne _ (by decide), sI_k (by omega)]), (a2 k (by omega) h2).2.trans (by rw [sI_k (by omega), sI_ne _ (by decide)])⟩
def fJ2 (S S' : Hp) (i : Nat) : Prop := (∀ b k, ¬ (b = 45 ∧ 18 + i ≤ k ∧ k < 36) → S'.1 b k = S.1 b k) ∧ (∀ b k, ¬ (b = 42 ∧ 18 + i ≤ k ∧ k < 36) → S'.2.1 b k = S.2.1 b k) ∧ S'.2.2 = S.2.2
theorem st_48 : ∀ (d i K : Nat) (S : Hp), i + d = 18 → d < K → ∃ S', f_X12_stands_48 K (nI i) S = f_X12_stands_92 5000 (0 : Int32) S' ∧ (∀ k, i ≤ k → k < 18 → S'.2.1 42 (18 + k) = S.2.1 42 k ∧ S'.1 45 (18 + k) = S.1 45 k) ∧ fJ2 S S' i := by
  intro d
  induction d with
  | zero =>
    intro i K S hi hK
    obtain ⟨K, rfl⟩ : ∃ q, K = q + 1 := ⟨K - 1, by omega⟩
    exact ⟨S, by rw [f_X12_stands_48, if_pos ((geL 18 (by omega) (by decide)).mpr (by omega))], fun k h1 h2 => absurd h2 (by omega), fun _ _ _ => rfl, fun _ _ _ => rfl, rfl⟩
  | succ d ih =>
    intro i K S hi hK
    obtain ⟨K, rfl⟩ : ∃ q, K = q + 1 := ⟨K - 1, by omega⟩
    obtain ⟨S', a1, a2, a3, a4, a5⟩ := ih (i + 1) K (ho_sI (ho_sJ S 42 (18 + i) (S.2.1 42 i)) 45 (18 + i) (S.1 45 i)) (by omega) (by omega)
    have g1 : ∀ b k, ¬ (b = 45 ∧ k = 18 + i) → (ho_sI (ho_sJ S 42 (18 + i) (S.2.1 42 i)) 45 (18 + i) (S.1 45 i)).1 b k = S.1 b k := by
      intro b k hb
      by_cases e : b = 45
      · subst e; rw [sI_k (by omega)]; rfl
      · rw [sI_ne _ e]; rfl
    have g2 : ∀ b k, ¬ (b = 42 ∧ k = 18 + i) → (ho_sI (ho_sJ S 42 (18 + i) (S.2.1 42 i)) 45 (18 + i) (S.1 45 i)).2.1 b k = S.2.1 b k := fun b k hb => sJ_n S hb
    refine ⟨S', ?_, fun k h1 h2 => ?_, fun b k hb => ?_, fun b k hb => ?_, a5⟩
    · rw [f_X12_stands_48, if_neg (fun q => absurd ((geL 18 (by omega) (by decide)).mp q) (by omega)), ldJ_n (by omega) (by decide), lit_nI 18, nI_add, stJ_n (by omega) (by decide), ldI_n (by omega) (by decide), stI_n (by omega) (by decide), le1_e, nI_1]
      exact a1
    · by_cases e : k = i
      · subst e
        rw [a4 _ _ (by omega), a3 _ _ (by omega)]
        exact ⟨sJ_at S, sI_v⟩
      · obtain ⟨u1, u2⟩ := a2 k (by omega) h2
        exact ⟨u1.trans (g2 _ _ (by omega)), u2.trans (g1 _ _ (by omega))⟩
    · rw [a3 b k (by omega), g1 b k (by omega)]
    · rw [a4 b k (by omega), g2 b k (by omega)]
theorem st_92 : ∀ (d i K : Nat) (S : Hp), i + d = 12 → d < K → ∃ S', f_X12_stands_92 K (nI i) S = f_X12_stands_121 5000 (0 : Int32) S' ∧ (∀ k, i ≤ k → k < 12 → S'.1 44 (12 + k) = S.1 44 k) ∧ fM (fun b k => (b = 44 ∧ 12 + i ≤ k ∧ k < 12 + 12)) S S' := by
  intro d
  induction d with
  | zero =>
    intro i K S hi hK
    obtain ⟨K, rfl⟩ : ∃ q, K = q + 1 := ⟨K - 1, by omega⟩
    exact ⟨S, by rw [f_X12_stands_92, if_pos ((geL 12 (by omega) (by decide)).mpr (by omega))], fun k h1 h2 => absurd h2 (by omega), fM_rf _ S⟩
  | succ d ih =>
    intro i K S hi hK
    obtain ⟨K, rfl⟩ : ∃ q, K = q + 1 := ⟨K - 1, by omega⟩
    have f1 : fM (fun b k => (b = 44 ∧ 12 + i ≤ k ∧ k < 12 + 12)) S (ho_sI S 44 (12 + i) (S.1 44 i)) := fM_sI S (by omega)
    obtain ⟨S', a1, a2, a3⟩ := ih (i + 1) K (ho_sI S 44 (12 + i) (S.1 44 i)) (by omega) (by omega)
    refine ⟨S', ?_, fun k h1 h2 => ?_, fM_tr f1 (fM_mo a3 (fun b k q => by omega))⟩
    · rw [f_X12_stands_92, if_neg (fun q => absurd ((geL 12 (by omega) (by decide)).mp q) (by omega)), ldI_n (by omega) (by decide), lit_nI 12, nI_add, stI_n (by omega) (by decide), le1_e, nI_1]
      exact a1
    · by_cases e : k = i
      · subst e
        exact by rw [a3.1 _ _ (by first | decide | (dsimp only; omega) | omega), sI_v]
      · exact (a2 k (by omega) h2).trans (by rw [sI_k (by omega)])
theorem st_121 : ∀ (d i K : Nat) (S : Hp), i + d = 10 → d < K → ∃ S', f_X12_stands_121 K (nI i) S = f_X12_stands_150 5000 (0 : Int32) S' ∧ (∀ k, i ≤ k → k < 10 → S'.1 46 (10 + k) = S.1 46 k) ∧ fM (fun b k => (b = 46 ∧ 10 + i ≤ k ∧ k < 10 + 10)) S S' := by
  intro d
  induction d with
  | zero =>
    intro i K S hi hK
    obtain ⟨K, rfl⟩ : ∃ q, K = q + 1 := ⟨K - 1, by omega⟩
    exact ⟨S, by rw [f_X12_stands_121, if_pos ((geL 10 (by omega) (by decide)).mpr (by omega))], fun k h1 h2 => absurd h2 (by omega), fM_rf _ S⟩
  | succ d ih =>
    intro i K S hi hK
    obtain ⟨K, rfl⟩ : ∃ q, K = q + 1 := ⟨K - 1, by omega⟩
    have f1 : fM (fun b k => (b = 46 ∧ 10 + i ≤ k ∧ k < 10 + 10)) S (ho_sI S 46 (10 + i) (S.1 46 i)) := fM_sI S (by omega)
    obtain ⟨S', a1, a2, a3⟩ := ih (i + 1) K (ho_sI S 46 (10 + i) (S.1 46 i)) (by omega) (by omega)
    refine ⟨S', ?_, fun k h1 h2 => ?_, fM_tr f1 (fM_mo a3 (fun b k q => by omega))⟩
    · rw [f_X12_stands_121, if_neg (fun q => absurd ((geL 10 (by omega) (by decide)).mp q) (by omega)), ldI_n (by omega) (by decide), lit_nI 10, nI_add, stI_n (by omega) (by decide), le1_e, nI_1]
      exact a1
    · by_cases e : k = i
      · subst e
        exact by rw [a3.1 _ _ (by first | decide | (dsimp only; omega) | omega), sI_v]
      · exact (a2 k (by omega) h2).trans (by rw [sI_k (by omega)])
theorem st_150 : ∀ (d i K : Nat) (S : Hp), i + d = 2 → d < K → ∃ S', f_X12_stands_150 K (nI i) S = f_X12_stands_205 5000 (0 : Int32) S' ∧ (∀ k, i ≤ k → k < 2 → S'.1 47 (2 + k) = S.1 47 k ∧ S'.1 48 (2 + k) = S.1 48 k ∧ S'.1 49 (2 + k) = S.1 49 k) ∧ fM (fun b k => (b = 47 ∧ 2 + i ≤ k ∧ k < 2 + 2) ∨ (b = 48 ∧ 2 + i ≤ k ∧ k < 2 + 2) ∨ (b = 49 ∧ 2 + i ≤ k ∧ k < 2 + 2)) S S' := by
  intro d
  induction d with
  | zero =>
    intro i K S hi hK
    obtain ⟨K, rfl⟩ : ∃ q, K = q + 1 := ⟨K - 1, by omega⟩
    exact ⟨S, by rw [f_X12_stands_150, if_pos ((geL 2 (by omega) (by decide)).mpr (by omega))], fun k h1 h2 => absurd h2 (by omega), fM_rf _ S⟩
  | succ d ih =>
    intro i K S hi hK
    obtain ⟨K, rfl⟩ : ∃ q, K = q + 1 := ⟨K - 1, by omega⟩
    have f1 : fM (fun b k => (b = 47 ∧ 2 + i ≤ k ∧ k < 2 + 2) ∨ (b = 48 ∧ 2 + i ≤ k ∧ k < 2 + 2) ∨ (b = 49 ∧ 2 + i ≤ k ∧ k < 2 + 2)) S (ho_sI (ho_sI (ho_sI S 47 (2 + i) (S.1 47 i)) 48 (2 + i) (S.1 48 i)) 49 (2 + i) (S.1 49 i)) := fM_tr (fM_sI S (by omega)) (fM_tr (fM_sI _ (by omega)) (fM_sI _ (by omega)))
    obtain ⟨S', a1, a2, a3⟩ := ih (i + 1) K (ho_sI (ho_sI (ho_sI S 47 (2 + i) (S.1 47 i)) 48 (2 + i) (S.1 48 i)) 49 (2 + i) (S.1 49 i)) (by omega) (by omega)
    refine ⟨S', ?_, fun k h1 h2 => ?_, fM_tr f1 (fM_mo a3 (fun b k q => by omega))⟩
    · rw [f_X12_stands_150, if_neg (fun q => absurd ((geL 2 (by omega) (by decide)).mp q) (by omega)), ldI_n (by omega) (by decide), lit_nI 2, nI_add, stI_n (by omega) (by decide), ldI_n (by omega) (by decide), sI_ne _ (by decide), stI_n (by omega) (by decide), ldI_n (by omega) (by decide), sI_ne _ (by decide), sI_ne _ (by decide), stI_n (by omega) (by decide), le1_e, nI_1]
      exact a1
    · by_cases e : k = i
      · subst e
        exact ⟨by rw [a3.1 _ _ (by first | decide | (dsimp only; omega) | omega), sI_ne _ (by decide), sI_ne _ (by decide), sI_v], by rw [a3.1 _ _ (by first | decide | (dsimp only; omega) | omega), sI_ne _ (by decide), sI_v], by rw [a3.1 _ _ (by first | decide | (dsimp only; omega) | omega), sI_v]⟩
      · exact ⟨(a2 k (by omega) h2).1.trans (by rw [sI_ne _ (by decide), sI_ne _ (by decide), sI_k (by omega)]), (a2 k (by omega) h2).2.1.trans (by rw [sI_ne _ (by decide), sI_k (by omega), sI_ne _ (by decide)]), (a2 k (by omega) h2).2.2.trans (by rw [sI_k (by omega), sI_ne _ (by decide), sI_ne _ (by decide)])⟩
theorem st_205 {n : Nat} (hn : n ≤ 1600) : ∀ (d i K : Nat) (S : Hp), i + d = n → d < K → S.1 0 50 = nI n → ∃ S', f_X12_stands_205 K (nI i) S = f_X12_stands_237 5000 (0 : Int32) S' ∧ (∀ k, i ≤ k → k < n → S'.1 50 (1600 + k) = S.1 50 k) ∧ fM (fun b k => (b = 50 ∧ 1600 + i ≤ k ∧ k < 1600 + n)) S S' := by
  intro d
  induction d with
  | zero =>
    intro i K S hi hK h50
    obtain ⟨K, rfl⟩ : ∃ q, K = q + 1 := ⟨K - 1, by omega⟩
    exact ⟨S, by rw [f_X12_stands_205, h50, if_pos (nI_le (by omega) (by omega))], fun k h1 h2 => absurd h2 (by omega), fM_rf _ S⟩
  | succ d ih =>
    intro i K S hi hK h50
    obtain ⟨K, rfl⟩ : ∃ q, K = q + 1 := ⟨K - 1, by omega⟩
    have f1 : fM (fun b k => (b = 50 ∧ 1600 + i ≤ k ∧ k < 1600 + n)) S (ho_sI S 50 (1600 + i) (S.1 50 i)) := fM_sI S (by omega)
    obtain ⟨S', a1, a2, a3⟩ := ih (i + 1) K (ho_sI S 50 (1600 + i) (S.1 50 i)) (by omega) (by omega) (by rw [sI_ne _ (by decide)]; exact h50)
    refine ⟨S', ?_, fun k h1 h2 => ?_, fM_tr f1 (fM_mo a3 (fun b k q => by omega))⟩
    · rw [f_X12_stands_205, h50, if_neg (nI_ge (by omega) (by omega)), ldI_n (by omega) (by decide), lit_nI 1600, nI_add, stI_n (by omega) (by decide), le1_e, nI_1]
      exact a1
    · by_cases e : k = i
      · subst e
        exact by rw [a3.1 _ _ (by first | decide | (dsimp only; omega) | omega), sI_v]
      · exact (a2 k (by omega) h2).trans (by rw [sI_k (by omega)])
theorem st_237 : ∀ (d i K : Nat) (S : Hp), i + d = 117 → d < K → ∃ S', f_X12_stands_237 K (nI i) S = f_X12_stands_282 5000 (0 : Int32) (ho_sI (ho_sI S' 55 1 (S.1 43 1)) 55 2 (S.1 47 0)) ∧ (∀ k, i ≤ k → k < 117 → S'.1 55 k = 0) ∧ fM (fun b k => b = 55 ∧ i ≤ k) S S' := by
  intro d
  induction d with
  | zero =>
    intro i K S hi hK
    obtain ⟨K, rfl⟩ : ∃ q, K = q + 1 := ⟨K - 1, by omega⟩
    exact ⟨S, by rw [f_X12_stands_237, if_pos ((geL 117 (by omega) (by decide)).mpr (by omega)), ldI_L 1 (by decide) (by decide), stI_L 1 (by decide) (by decide), ldI_L 0 (by decide) (by decide), sI_ne _ (by decide), stI_L 2 (by decide) (by decide)], fun k h1 h2 => absurd h2 (by omega), fM_rf _ S⟩
  | succ d ih =>
    intro i K S hi hK
    obtain ⟨K, rfl⟩ : ∃ q, K = q + 1 := ⟨K - 1, by omega⟩
    obtain ⟨S', a1, a2, a3⟩ := ih (i + 1) K (ho_sI S 55 i 0) (by omega) (by omega)
    refine ⟨S', ?_, fun k h1 h2 => ?_, fM_tr (fM_sI S ⟨rfl, Nat.le_refl _⟩) (fM_mo a3 (fun b k q => by omega))⟩
    · rw [f_X12_stands_237, if_neg (fun q => absurd ((geL 117 (by omega) (by decide)).mp q) (by omega)), stI_n (by omega) (by decide), le1_e, nI_1, a1, sI_ne _ (by decide), sI_ne _ (by decide)]
    · by_cases e : k = i
      · subst e
        rw [a3.1 _ _ (by first | decide | (dsimp only; omega) | omega), sI_v]
      · exact a2 k (by omega) h2
theorem st_282 {np : Nat} (hnp : np ≤ 6) : ∀ (d i K : Nat) (S : Hp), i + d = np → d < K → S.1 41 0 = nI np → ∃ S', f_X12_stands_282 K (nI i) S = f_X12_stands_316 5000 (0 : Int32) S' ∧ (∀ k, i ≤ k → k < np → S'.1 55 (3 + k) = S.1 44 (2 * k)) ∧ fM (fun b k => b = 55 ∧ 3 + i ≤ k ∧ k < 3 + np) S S' := by
  intro d
  induction d with
  | zero =>
    intro i K S hi hK h41
    obtain ⟨K, rfl⟩ : ∃ q, K = q + 1 := ⟨K - 1, by omega⟩
    exact ⟨S, by rw [f_X12_stands_282, ldI_L 0 (by decide) (by decide), h41, if_pos (nI_le (by omega) (by omega))], fun k h1 h2 => absurd h2 (by omega), fM_rf _ S⟩
  | succ d ih =>
    intro i K S hi hK h41
    obtain ⟨K, rfl⟩ : ∃ q, K = q + 1 := ⟨K - 1, by omega⟩
    obtain ⟨S', a1, a2, a3⟩ := ih (i + 1) K (ho_sI S 55 (3 + i) (S.1 44 (2 * i))) (by omega) (by omega) (by rw [sI_ne _ (by decide)]; exact h41)
    refine ⟨S', ?_, fun k h1 h2 => ?_, fM_tr (fM_sI S (by omega)) (fM_mo a3 (fun b k q => by omega))⟩
    · rw [f_X12_stands_282, ldI_L 0 (by decide) (by decide), h41, if_neg (nI_ge (by omega) (by omega)), lit_nI 2, pk_mul, ldI_n (by omega) (by decide), lit_nI 3, nI_add, stI_n (by omega) (by decide), le1_e, nI_1]
      exact a1
    · by_cases e : k = i
      · subst e
        rw [a3.1 _ _ (by first | decide | (dsimp only; omega) | omega), sI_v]
      · exact (a2 k (by omega) h2).trans (by rw [sI_ne _ (by decide)])
theorem st_316 {nw : Nat} (hnw : nw ≤ 5) : ∀ (d i K : Nat) (S : Hp), i + d = nw → d < K → S.1 41 2 = nI nw → ∃ S', f_X12_stands_316 K (nI i) S = some (ho_sI (ho_sI S' 0 72 0) 0 66 0) ∧ (∀ k, i ≤ k → k < nw → S'.1 55 (21 + k) = S.1 46 (2 * k)) ∧ fM (fun b k => b = 55 ∧ 21 + i ≤ k ∧ k < 21 + nw) S S' := by
  intro d
  induction d with
  | zero =>
    intro i K S hi hK h41
    obtain ⟨K, rfl⟩ : ∃ q, K = q + 1 := ⟨K - 1, by omega⟩
    exact ⟨S, by rw [f_X12_stands_316, ldI_L 2 (by decide) (by decide), h41, if_pos (nI_le (by omega) (by omega)), le1_e, le1_e], fun k h1 h2 => absurd h2 (by omega), fM_rf _ S⟩
  | succ d ih =>
    intro i K S hi hK h41
    obtain ⟨K, rfl⟩ : ∃ q, K = q + 1 := ⟨K - 1, by omega⟩
    obtain ⟨S', a1, a2, a3⟩ := ih (i + 1) K (ho_sI S 55 (21 + i) (S.1 46 (2 * i))) (by omega) (by omega) (by rw [sI_ne _ (by decide)]; exact h41)
    refine ⟨S', ?_, fun k h1 h2 => ?_, fM_tr (fM_sI S (by omega)) (fM_mo a3 (fun b k q => by omega))⟩
    · rw [f_X12_stands_316, ldI_L 2 (by decide) (by decide), h41, if_neg (nI_ge (by omega) (by omega)), lit_nI 2, pk_mul, ldI_n (by omega) (by decide), lit_nI 21, nI_add, stI_n (by omega) (by decide), le1_e, nI_1]
      exact a1
    · by_cases e : k = i
      · subst e
        rw [a3.1 _ _ (by first | decide | (dsimp only; omega) | omega), sI_v]
      · exact (a2 k (by omega) h2).trans (by rw [sI_ne _ (by decide)])
