/-! level 2: the reference: a crown read, and standing -/
def mNm (S : Hp) (np nt nw : Nat) (N : Nat → Nat → List Nat) : Prop := ∀ k, k < 3 → ∀ i, i < cnt np nt nw k → S.2.1 42 (18 + (6 * k + i)) = lN (nvL (N k i))
def fS (S S' : Hp) : Prop := (∀ b k, ¬ (b = 0 ∧ (k = 52 ∨ k = 66 ∨ k = 72)) → ¬ crM b → b ≠ 55 → S'.1 b k = S.1 b k) ∧ (∀ b k, b ≠ 42 → S'.2.1 b k = S.2.1 b k) ∧ S'.2.2 = S.2.2
theorem m_stands {S : Hp} {D : Dr} {tot : Nat} (h : mD S D tot) (htot : tot ≤ 1600) (ho : okD D) :
    ∃ F, f_X12_stands S = some F ∧ mC F (crO D) ∧ mNm F D.1.1 D.1.2.1 D.1.2.2 D.2.2.1 ∧ mZ F (crO D) (z0 D) ∧ mK F [] ∧ F.1 0 52 = 1 ∧ F.1 0 72 = 0 ∧ F.1 0 66 = 0 ∧ fS S F := by
  obtain ⟨⟨np, nt, nw⟩, R, N, se, lo⟩ := D
  have h' : mE S np nt nw R N se lo tot := h
  have ho' : okE np nt nw R N se lo := ho
  obtain ⟨⟨q11, q12, q13⟩, ⟨q21, q22, q23, q24, q25⟩, q3, q4, q5, q6, q7, q8, q9, q10⟩ := h'
  obtain ⟨⟨o1, o2, o3⟩, oo⟩ := ho'
  obtain ⟨S1, hS1⟩ : ∃ S1, S1 = ho_sI S 0 52 1 := ⟨_, rfl⟩
  have f1 : fM (fun b k => b = 0 ∧ k = 52) S S1 := by rw [hS1]; exact fM_sI S ⟨rfl, rfl⟩
  obtain ⟨S2, a1, a2, a3⟩ := st_7 3 0 5000 S1 (by decide) (by decide)
  obtain ⟨S3, b1, b2, b3, b4, b5⟩ := st_48 18 0 5000 S2 (by decide) (by decide)
  obtain ⟨S4, c1, c2, c3⟩ := st_92 12 0 5000 S3 (by decide) (by decide)
  obtain ⟨S5, d1, d2, d3⟩ := st_121 10 0 5000 S4 (by decide) (by decide)
  obtain ⟨S6, e1, e2, e3⟩ := st_150 2 0 5000 S5 (by decide) (by decide)
  have B2 : ∀ b k, ¬ (b = 0 ∧ k = 52) → ¬ ((b = 41 ∨ b = 43) ∧ 3 ≤ k) → S2.1 b k = S.1 b k := fun b k h1 h2 => by rw [a3.1 b k (by first | decide | (dsimp only; omega) | omega), f1.1 b k h1]
  have B3 : ∀ b k, ¬ (b = 0 ∧ k = 52) → ¬ ((b = 41 ∨ b = 43) ∧ 3 ≤ k) → ¬ (b = 45 ∧ 18 ≤ k) → S3.1 b k = S.1 b k := fun b k h1 h2 h3 => by rw [b3 b k (by omega), B2 b k h1 h2]
  have B4 : ∀ b k, ¬ (b = 0 ∧ k = 52) → ¬ ((b = 41 ∨ b = 43) ∧ 3 ≤ k) → ¬ (b = 45 ∧ 18 ≤ k) → ¬ (b = 44 ∧ 12 ≤ k) → S4.1 b k = S.1 b k := fun b k h1 h2 h3 h4 => by rw [c3.1 b k (by first | decide | (dsimp only; omega) | omega), B3 b k h1 h2 h3]
  have B5 : ∀ b k, ¬ (b = 0 ∧ k = 52) → ¬ ((b = 41 ∨ b = 43) ∧ 3 ≤ k) → ¬ (b = 45 ∧ 18 ≤ k) → ¬ (b = 44 ∧ 12 ≤ k) → ¬ (b = 46 ∧ 10 ≤ k) → S5.1 b k = S.1 b k := fun b k h1 h2 h3 h4 h5 => by rw [d3.1 b k (by first | decide | (dsimp only; omega) | omega), B4 b k h1 h2 h3 h4]
  have B6 : ∀ b k, ¬ (b = 0 ∧ k = 52) → ¬ ((b = 41 ∨ b = 43) ∧ 3 ≤ k) → ¬ (b = 45 ∧ 18 ≤ k) → ¬ (b = 44 ∧ 12 ≤ k) → ¬ (b = 46 ∧ 10 ≤ k) → ¬ ((b = 47 ∨ b = 48 ∨ b = 49) ∧ 2 ≤ k) → S6.1 b k = S.1 b k := fun b k h1 h2 h3 h4 h5 h6 => by rw [e3.1 b k (by dsimp only; omega), B5 b k h1 h2 h3 h4 h5]
  obtain ⟨S7, g1, g2, g3⟩ := st_205 (n := tot) htot tot 0 5000 S6 (by omega) (by omega) (by rw [B6 0 50 (by omega) (by omega) (by omega) (by omega) (by omega) (by omega)]; exact q7)
  have B7 : ∀ b k, ¬ (b = 0 ∧ k = 52) → ¬ ((b = 41 ∨ b = 43) ∧ 3 ≤ k) → ¬ (b = 45 ∧ 18 ≤ k) → ¬ (b = 44 ∧ 12 ≤ k) → ¬ (b = 46 ∧ 10 ≤ k) → ¬ ((b = 47 ∨ b = 48 ∨ b = 49) ∧ 2 ≤ k) → ¬ (b = 50 ∧ 1600 ≤ k) → S7.1 b k = S.1 b k := fun b k h1 h2 h3 h4 h5 h6 h7 => by rw [g3.1 b k (by first | decide | (dsimp only; omega) | omega), B6 b k h1 h2 h3 h4 h5 h6]
  obtain ⟨S8, i1, i2, i3⟩ := st_237 117 0 5000 S7 (by decide) (by decide)
  have e43 : S7.1 43 1 = nI (R 0 3) := by rw [B7 43 1 (by omega) (by omega) (by omega) (by omega) (by omega) (by omega) (by omega)]; exact q22
  have e47 : S7.1 47 0 = nI (R 0 4) := by rw [B7 47 0 (by omega) (by omega) (by omega) (by omega) (by omega) (by omega) (by omega)]; exact q24
  obtain ⟨S9, hS9⟩ : ∃ S9, S9 = ho_sI (ho_sI S8 55 1 (S7.1 43 1)) 55 2 (S7.1 47 0) := ⟨_, rfl⟩
  have f9 : fM (fun b _ => b = 55) S7 S9 := by
    rw [hS9]
    exact fM_tr (fM_mo i3 (fun b k q => q.1)) (fM_tr (fM_sI _ rfl) (fM_sI _ rfl))
  have B9 : ∀ b k, b ≠ 55 → ¬ (b = 0 ∧ k = 52) → ¬ ((b = 41 ∨ b = 43) ∧ 3 ≤ k) → ¬ (b = 45 ∧ 18 ≤ k) → ¬ (b = 44 ∧ 12 ≤ k) → ¬ (b = 46 ∧ 10 ≤ k) → ¬ ((b = 47 ∨ b = 48 ∨ b = 49) ∧ 2 ≤ k) → ¬ (b = 50 ∧ 1600 ≤ k) → S9.1 b k = S.1 b k := fun b k h0 h1 h2 h3 h4 h5 h6 h7 => by rw [f9.1 b k h0, B7 b k h1 h2 h3 h4 h5 h6 h7]
  obtain ⟨S10, j1, j2, j3⟩ := st_282 (np := np) o1 np 0 5000 S9 (by omega) (by omega) (by rw [B9 41 0 (by omega) (by omega) (by omega) (by omega) (by omega) (by omega) (by omega) (by omega)]; exact q11)
  have e10 : ∀ b k, b ≠ 55 → S10.1 b k = S9.1 b k := fun b k hb => j3.1 b k (by first | decide | (dsimp only; omega) | omega)
  obtain ⟨S11, k1, k2, k3⟩ := st_316 (nw := nw) o3 nw 0 5000 S10 (by omega) (by omega) (by rw [e10 41 2 (by decide), B9 41 2 (by omega) (by omega) (by omega) (by omega) (by omega) (by omega) (by omega) (by omega)]; exact q13)
  obtain ⟨F, hF⟩ : ∃ F, F = ho_sI (ho_sI S11 0 72 0) 0 66 0 := ⟨_, rfl⟩
  have G9 : ∀ b k, b ≠ 0 → b ≠ 55 → F.1 b k = S9.1 b k := fun b k h0 h5 => by rw [hF, sI_ne _ h0, sI_ne _ h0, k3.1 b k (by first | decide | (dsimp only; omega) | omega), e10 b k h5]
  have G7 : ∀ b k, b ≠ 0 → b ≠ 55 → F.1 b k = S7.1 b k := fun b k h0 h5 => by rw [G9 b k h0 h5, f9.1 b k h5]
  have G6 : ∀ b k, b ≠ 0 → b ≠ 55 → b ≠ 50 → F.1 b k = S6.1 b k := fun b k h0 h5 h6 => by rw [G7 b k h0 h5, g3.1 b k (by first | decide | (dsimp only; omega) | omega)]
  have G5 : ∀ b k, b ≠ 0 → b ≠ 55 → b ≠ 50 → b ≠ 47 → b ≠ 48 → b ≠ 49 → F.1 b k = S5.1 b k := fun b k h0 h5 h6 h7 h8 h9 => by rw [G6 b k h0 h5 h6, e3.1 b k (by dsimp only; omega)]
  have F5 : ∀ k, F.1 55 k = S11.1 55 k := fun k => by rw [hF, sI_ne _ (by decide), sI_ne _ (by decide)]
  have F2 : F.2 = S3.2 := by
    have u1 : F.2 = S11.2 := by rw [hF]; rfl
    rw [u1, k3.2, j3.2, f9.2, g3.2, e3.2, d3.2, c3.2]
  have F2s : S2.2 = S.2 := by rw [a3.2, f1.2]
  refine ⟨F, ?_, ?_, ?_, ?_, ?_, ?_, ?_, ?_, ?_⟩
  · unfold f_X12_stands
    rw [le1_e, ← hS1]
    have j1' : f_X12_stands_282 5000 (0 : Int32) S9 = f_X12_stands_316 5000 (0 : Int32) S10 := j1
    have i1' : f_X12_stands_237 5000 (0 : Int32) S7 = f_X12_stands_282 5000 (0 : Int32) S9 := by rw [hS9]; exact i1
    rw [hF]
    exact a1.trans (b1.trans (c1.trans (d1.trans (e1.trans (g1.trans (i1'.trans (j1'.trans k1)))))))
  · refine ⟨⟨?_, ?_, ?_⟩, ⟨?_, ?_, ?_⟩, fun p hp => ?_, fun t ht => ?_, fun w hw => ?_, ?_, ?_⟩
    · rw [G5 41 3 (by decide) (by decide) (by decide) (by decide) (by decide) (by decide), d3.1 41 3 (by first | decide | (dsimp only; omega) | omega), c3.1 41 3 (by first | decide | (dsimp only; omega) | omega), b3 41 3 (by omega), (a2 0 (by decide) (by decide)).1, f1.1 41 0 (by first | decide | (dsimp only; omega) | omega)]; exact q11
    · rw [G5 41 4 (by decide) (by decide) (by decide) (by decide) (by decide) (by decide), d3.1 41 4 (by first | decide | (dsimp only; omega) | omega), c3.1 41 4 (by first | decide | (dsimp only; omega) | omega), b3 41 4 (by omega), (a2 1 (by decide) (by decide)).1, f1.1 41 1 (by first | decide | (dsimp only; omega) | omega)]; exact q12
    · rw [G5 41 5 (by decide) (by decide) (by decide) (by decide) (by decide) (by decide), d3.1 41 5 (by first | decide | (dsimp only; omega) | omega), c3.1 41 5 (by first | decide | (dsimp only; omega) | omega), b3 41 5 (by omega), (a2 2 (by decide) (by decide)).1, f1.1 41 2 (by first | decide | (dsimp only; omega) | omega)]; exact q13
    · rw [G5 43 3 (by decide) (by decide) (by decide) (by decide) (by decide) (by decide), d3.1 43 3 (by first | decide | (dsimp only; omega) | omega), c3.1 43 3 (by first | decide | (dsimp only; omega) | omega), b3 43 3 (by omega), (a2 0 (by decide) (by decide)).2, f1.1 43 0 (by first | decide | (dsimp only; omega) | omega)]; exact q21
    · rw [G5 43 5 (by decide) (by decide) (by decide) (by decide) (by decide) (by decide), d3.1 43 5 (by first | decide | (dsimp only; omega) | omega), c3.1 43 5 (by first | decide | (dsimp only; omega) | omega), b3 43 5 (by omega), (a2 2 (by decide) (by decide)).2, f1.1 43 2 (by first | decide | (dsimp only; omega) | omega)]; exact q23
    · rw [G6 47 3 (by decide) (by decide) (by decide), (e2 1 (by decide) (by decide)).1, B5 47 1 (by omega) (by omega) (by omega) (by omega) (by omega)]; exact q25
    · have hp' : p < np := hp
      rw [show 13 + 2 * p = 12 + (2 * p + 1) by omega, G5 44 _ (by decide) (by decide) (by decide) (by decide) (by decide) (by decide), d3.1 44 _ (by first | decide | (dsimp only; omega) | omega), c2 (2 * p + 1) (by omega) (by omega), B3 44 _ (by omega) (by omega) (by omega)]
      exact (q3 p hp').2
    · have ht' : t < nt := ht
      obtain ⟨w1, w2, w3⟩ := q4 t ht'
      refine ⟨?_, ?_, ?_⟩
      · rw [G5 45 _ (by decide) (by decide) (by decide) (by decide) (by decide) (by decide), d3.1 45 _ (by first | decide | (dsimp only; omega) | omega), c3.1 45 _ (by first | decide | (dsimp only; omega) | omega), (b2 (3 * t) (by omega) (by omega)).2, B2 45 _ (by omega) (by omega)]; exact w1
      · rw [show 19 + 3 * t = 18 + (3 * t + 1) by omega, G5 45 _ (by decide) (by decide) (by decide) (by decide) (by decide) (by decide), d3.1 45 _ (by first | decide | (dsimp only; omega) | omega), c3.1 45 _ (by first | decide | (dsimp only; omega) | omega), (b2 (3 * t + 1) (by omega) (by omega)).2, B2 45 _ (by omega) (by omega)]; exact w2
      · rw [show 20 + 3 * t = 18 + (3 * t + 2) by omega, G5 45 _ (by decide) (by decide) (by decide) (by decide) (by decide) (by decide), d3.1 45 _ (by first | decide | (dsimp only; omega) | omega), c3.1 45 _ (by first | decide | (dsimp only; omega) | omega), (b2 (3 * t + 2) (by omega) (by omega)).2, B2 45 _ (by omega) (by omega)]; exact w3
    · have hw' : w < nw := hw
      rw [show 11 + 2 * w = 10 + (2 * w + 1) by omega, G5 46 _ (by decide) (by decide) (by decide) (by decide) (by decide) (by decide), d2 (2 * w + 1) (by omega) (by omega), B4 46 _ (by omega) (by omega) (by omega) (by omega)]
      exact (q5 w hw').2
    · show mF F 0 (se.getD [44])
      have e48 : F.1 48 (2 + 0) = S.1 48 0 := by rw [G6 48 _ (by decide) (by decide) (by decide), (e2 0 (by decide) (by decide)).2.1, B5 48 0 (by omega) (by omega) (by omega) (by omega) (by omega)]
      have e49 : F.1 49 (2 + 0) = S.1 49 0 := by rw [G6 49 _ (by decide) (by decide) (by decide), (e2 0 (by decide) (by decide)).2.2, B5 49 0 (by omega) (by omega) (by omega) (by omega) (by omega)]
      cases se with
      | none => exact Or.inr ⟨e48.trans q8, rfl⟩
      | some cs =>
        obtain ⟨f, u1, u2, u3, u4⟩ := q8
        refine Or.inl ⟨f, by show f + cs.length ≤ 1600; omega, e48.trans u2, e49.trans u3, fun j hj => ?_, ?_⟩
        · have hj' : j < cs.length := hj
          rw [G7 50 _ (by decide) (by decide), g2 (f + j) (by omega) (by omega), B6 50 _ (by omega) (by omega) (by omega) (by omega) (by omega) (by omega)]
          exact u4 j hj
        · exact alw_C (oo.2.2.2.2.2.1 cs rfl).2.1
    · show mF F 1 (lo.getD [1010])
      have e48 : F.1 48 (2 + 1) = S.1 48 1 := by rw [G6 48 _ (by decide) (by decide) (by decide), (e2 1 (by decide) (by decide)).2.1, B5 48 1 (by omega) (by omega) (by omega) (by omega) (by omega)]
      have e49 : F.1 49 (2 + 1) = S.1 49 1 := by rw [G6 49 _ (by decide) (by decide) (by decide), (e2 1 (by decide) (by decide)).2.2, B5 49 1 (by omega) (by omega) (by omega) (by omega) (by omega)]
      cases lo with
      | none => exact Or.inr ⟨e48.trans q9, rfl⟩
      | some cs =>
        obtain ⟨f, u1, u2, u3, u4⟩ := q9
        refine Or.inl ⟨f, by show f + cs.length ≤ 1600; omega, e48.trans u2, e49.trans u3, fun j hj => ?_, ?_⟩
        · have hj' : j < cs.length := hj
          rw [G7 50 _ (by decide) (by decide), g2 (f + j) (by omega) (by omega), B6 50 _ (by omega) (by omega) (by omega) (by omega) (by omega) (by omega)]
          exact u4 j hj
        · exact alw_C (oo.2.2.2.2.2.2 cs rfl).2.1
  · intro k hk i hi
    have h6 := cnt_in (k := k) (np := np) (nt := nt) (nw := nw) ⟨o1, o2, o3⟩
    have hi' : i < cnt np nt nw k := hi
    rw [F2, (b2 (6 * k + i) (by omega) (by omega)).1, F2s]
    exact q6 k hk i hi'
  · have e : ∀ k, z0 ((np, nt, nw), R, N, se, lo) k = if k = 1 then R 0 3 else if k = 2 then R 0 4 else if 3 ≤ k ∧ k < 3 + np then R 6 (k - 3) else if 21 ≤ k ∧ k < 21 + nw then R 7 (k - 21) else 0 := fun _ => rfl
    have z9 : ∀ k, k ≠ 1 → k ≠ 2 → k < 117 → S9.1 55 k = 0 := fun k h1 h2 h3 => by rw [hS9, sI_k h2, sI_k h1, i2 k (by omega) h3]
    refine ⟨fun k hk => ?_, fun w hw => ?_⟩
    · rw [F5, e, k3.1 55 k (by first | decide | (dsimp only; omega) | omega)]
      by_cases x1 : k = 1
      · subst x1
        rw [if_pos rfl, j3.1 55 1 (by first | decide | (dsimp only; omega) | omega), hS9, sI_k (by decide), sI_v]; exact e43
      · rw [if_neg x1]
        by_cases x2 : k = 2
        · subst x2
          rw [if_pos rfl, j3.1 55 2 (by first | decide | (dsimp only; omega) | omega), hS9, sI_v]; exact e47
        · rw [if_neg x2]
          by_cases x3 : 3 ≤ k ∧ k < 3 + np
          · obtain ⟨p, rfl⟩ : ∃ p, k = 3 + p := ⟨k - 3, by omega⟩
            rw [if_pos x3, j2 p (by omega) (by omega), B9 44 _ (by omega) (by omega) (by omega) (by omega) (by omega) (by omega) (by omega) (by omega), show 3 + p - 3 = p by omega]
            exact (q3 p (by omega)).1
          · rw [if_neg x3, if_neg (by omega), j3.1 55 k (by dsimp only; omega), z9 k x1 x2 (by omega)]
            rfl
    · have hw' : w < nw := hw
      rw [F5, e, if_neg (by omega), if_neg (by omega), if_neg (by omega), if_pos (by omega), k2 w (by omega) hw', e10 46 _ (by decide), B9 46 _ (by omega) (by omega) (by omega) (by omega) (by omega) (by omega) (by omega) (by omega), show 21 + w - 21 = w by omega]
      exact (q5 w hw').1
  · refine ⟨⟨0, by decide, rfl⟩, ?_, fun j hj => absurd hj (by simp)⟩
    rw [F5, k3.1 55 26 (by dsimp only; omega), j3.1 55 26 (by dsimp only; omega), hS9, sI_k (by decide), sI_k (by decide), i2 26 (by decide) (by decide)]
    rfl
  · rw [hF, sI_k (by decide), sI_k (by decide), k3.1 0 52 (by first | decide | (dsimp only; omega) | omega), e10 0 52 (by decide), f9.1 0 52 (by decide), g3.1 0 52 (by first | decide | (dsimp only; omega) | omega), e3.1 0 52 (by first | decide | (dsimp only; omega) | omega), d3.1 0 52 (by first | decide | (dsimp only; omega) | omega), c3.1 0 52 (by first | decide | (dsimp only; omega) | omega), b3 0 52 (by omega), a3.1 0 52 (by first | decide | (dsimp only; omega) | omega), hS1, sI_v]
  · rw [hF, sI_k (by decide), sI_v]
  · rw [hF, sI_v]
  · refine ⟨fun b k h1 h2 h3 => ?_, fun b k hb => ?_, ?_⟩
    · unfold crM at h2
      have u : F.1 b k = S11.1 b k := by
        rw [hF]
        by_cases e : b = 0
        · subst e; rw [sI_k (by omega), sI_k (by omega)]
        · rw [sI_ne _ e, sI_ne _ e]
      rw [u, k3.1 b k (by first | decide | (dsimp only; omega) | omega), e10 b k h3, B9 b k h3 (by omega) (by omega) (by omega) (by omega) (by omega) (by omega) (by omega)]
    · rw [F2, b4 b k (by omega), F2s]
    · rw [F2, b5, F2s]
