/-! level 2: the class reads a crown: statements, all of it -/
theorem h_sP {S : Hp} {T : Tp} {σ : Lx} {c np nt nw : Nat} {R : Nat → Nat → Nat} {N : Nat → Nat → List Nat} {se lo : Option (List Nat)} (h : dE S c np nt nw R N se lo) (ho : okE np nt nw R N se lo) (ht : tR S T σ) :
    ∃ r S', ob2 (f_X3_oneMore (0 : Int32) (6 : Int32) S) (fun r1 S1 => if r1 = 0 then some ((0 : Int32), S1) else ob2 (f_X3_newProvince S1) (fun r2 S2 => if r2 = 0 then some ((0 : Int32), S2) else some ((1 : Int32), S2))) = some (r, S') ∧ fR c S S' ∧ cD r S' c T (prvT T ((np, nt, nw), R, N, se, lo) σ) := by
  obtain ⟨r1, S1, a1, a2, a3, a4⟩ := h_more (kd := 0) (ms := 6) h ho (by decide) ⟨ho.1.1, Nat.le_refl _⟩ ht
  have a1' : f_X3_oneMore (0 : Int32) (6 : Int32) S = some (r1, S1) := a1
  have e0 : cnt np nt nw 0 = np := rfl
  rw [e0] at a3 a4
  rw [a1', ob2_s]
  unfold prvT
  dsimp only
  by_cases e : np = 6
  · obtain ⟨b1, b2⟩ := a3 e
    rw [if_pos b1, if_pos e]
    exact ⟨0, S1, rfl, a2, rfl, b2⟩
  rw [if_neg e]
  have hlt : np < 6 := by have := ho.1.1; omega
  obtain ⟨b1, b2⟩ := a4 hlt
  cases x : newN T ((np, nt, nw), R, N, se, lo) (nx T σ) with
  | error e =>
    obtain ⟨c1, c2⟩ := b1 e x
    rw [if_pos c1]
    exact ⟨0, S1, rfl, a2, rfl, c2⟩
  | ok w =>
    obtain ⟨c1, c2, c3, c4⟩ := b2 w x
    obtain ⟨r2, S2, d1, d2, d3⟩ := h_newP (w := w) c3 hlt c2 c4
    rw [if_neg (by rw [c1]; exact ne1), d1, ob2_s, be_k]
    refine ⟨r2, S2, ?_, fR_tr a2 d2, d3⟩
    generalize (bn (tkV T 0 9999 (nx T (nx T σ))) _) = X at d3
    cases X with
    | ok v => rw [d3.1, if_neg ne1]
    | error e => rw [d3.1, if_pos rfl]
theorem h_sT2 {S : Hp} {T : Tp} {σ : Lx} {c np nt nw : Nat} {R : Nat → Nat → Nat} {N : Nat → Nat → List Nat} {se lo : Option (List Nat)} (h : dE S c np nt nw R N se lo) (ho : okE np nt nw R N se lo) (ht : tR S T σ) :
    ∃ r S', ob2 (f_X3_oneMore (1 : Int32) (6 : Int32) S) (fun r3 S3 => if r3 = 0 then some ((0 : Int32), S3) else ob2 (f_X3_newTrick S3) (fun r4 S4 => if r4 = 0 then some ((0 : Int32), S4) else some ((1 : Int32), S4))) = some (r, S') ∧ fR c S S' ∧ cD r S' c T (trkT T ((np, nt, nw), R, N, se, lo) σ) := by
  obtain ⟨r1, S1, a1, a2, a3, a4⟩ := h_more (kd := 1) (ms := 6) h ho (by decide) ⟨ho.1.2.1, Nat.le_refl _⟩ ht
  have a1' : f_X3_oneMore (1 : Int32) (6 : Int32) S = some (r1, S1) := a1
  have e0 : cnt np nt nw 1 = nt := rfl
  rw [e0] at a3 a4
  rw [a1', ob2_s]
  unfold trkT
  dsimp only
  by_cases e : nt = 6
  · obtain ⟨b1, b2⟩ := a3 e
    rw [if_pos b1, if_pos e]
    exact ⟨0, S1, rfl, a2, rfl, b2⟩
  rw [if_neg e]
  have hlt : nt < 6 := by have := ho.1.2.1; omega
  obtain ⟨b1, b2⟩ := a4 hlt
  cases x : newN T ((np, nt, nw), R, N, se, lo) (nx T σ) with
  | error e =>
    obtain ⟨c1, c2⟩ := b1 e x
    rw [if_pos c1]
    exact ⟨0, S1, rfl, a2, rfl, c2⟩
  | ok w =>
    obtain ⟨c1, c2, c3, c4⟩ := b2 w x
    obtain ⟨r2, S2, d1, d2, d3⟩ := h_newT (w := w) c3 ho hlt c2 c4
    rw [if_neg (by rw [c1]; exact ne1), d1, ob2_s, be_k]
    refine ⟨r2, S2, ?_, fR_tr a2 d2, d3⟩
    generalize (bs (tkW T (wL.getD 6 []) (nx T (nx T σ))) _) = X at d3
    cases X with
    | ok v => rw [d3.1, if_neg ne1]
    | error e => rw [d3.1, if_pos rfl]
theorem h_sW2 {S : Hp} {T : Tp} {σ : Lx} {c np nt nw : Nat} {R : Nat → Nat → Nat} {N : Nat → Nat → List Nat} {se lo : Option (List Nat)} (h : dE S c np nt nw R N se lo) (ho : okE np nt nw R N se lo) (ht : tR S T σ) :
    ∃ r S', ob2 (f_X3_oneMore (2 : Int32) (5 : Int32) S) (fun r5 S5 => if r5 = 0 then some ((0 : Int32), S5) else ob2 (f_X3_newWatcher S5) (fun r6 S6 => if r6 = 0 then some ((0 : Int32), S6) else some ((1 : Int32), S6))) = some (r, S') ∧ fR c S S' ∧ cD r S' c T (watT T ((np, nt, nw), R, N, se, lo) σ) := by
  obtain ⟨r1, S1, a1, a2, a3, a4⟩ := h_more (kd := 2) (ms := 5) h ho (by decide) ⟨ho.1.2.2, by decide⟩ ht
  have a1' : f_X3_oneMore (2 : Int32) (5 : Int32) S = some (r1, S1) := a1
  have e0 : cnt np nt nw 2 = nw := rfl
  rw [e0] at a3 a4
  rw [a1', ob2_s]
  unfold watT
  dsimp only
  by_cases e : nw = 5
  · obtain ⟨b1, b2⟩ := a3 e
    rw [if_pos b1, if_pos e]
    exact ⟨0, S1, rfl, a2, rfl, b2⟩
  rw [if_neg e]
  have hlt : nw < 5 := by have := ho.1.2.2; omega
  obtain ⟨b1, b2⟩ := a4 hlt
  cases x : newN T ((np, nt, nw), R, N, se, lo) (nx T σ) with
  | error e =>
    obtain ⟨c1, c2⟩ := b1 e x
    rw [if_pos c1]
    exact ⟨0, S1, rfl, a2, rfl, c2⟩
  | ok w =>
    obtain ⟨c1, c2, c3, c4⟩ := b2 w x
    obtain ⟨r2, S2, d1, d2, d3⟩ := h_newW (w := w) c3 hlt c2 c4
    rw [if_neg (by rw [c1]; exact ne1), d1, ob2_s, be_k]
    refine ⟨r2, S2, ?_, fR_tr a2 d2, d3⟩
    generalize (bs (tkW T (wL.getD 10 []) (nx T (nx T σ))) _) = X at d3
    cases X with
    | ok v => rw [d3.1, if_neg ne1]
    | error e => rw [d3.1, if_pos rfl]
theorem cD_01 {r : Int32} {S : Hp} {c : Nat} {T : Tp} {X : Except (Nat × Nat) (Dr × Lx)} (h : cD r S c T X) : r = 0 ∨ r = 1 := by
  cases X with
  | ok v => exact Or.inr h.1
  | error e => exact Or.inl h.1
theorem tr01 {β : Type} {r : Int32} {x : Option β} (h : r = 0 ∨ r = 1) : tr r x = x := if_pos h
theorem stm_no {T : Tp} {D : Dr} {σ : Lx} (h : ∀ k, k < 35 → ¬ isW T σ (wL.getD k []) = true) : stmT T D σ = .error (1, tS T σ) := by
  unfold stmT
  rw [if_neg (h 3 (by decide)), if_neg (h 5 (by decide)), if_neg (h 9 (by decide)), if_neg (h 12 (by decide)), if_neg (h 13 (by decide)), if_neg (h 14 (by decide)), if_neg (h 15 (by decide))]
theorem stm_ot {T : Tp} {D : Dr} {σ : Lx} {j : Nat} (h : ∀ k, k < 35 → (isW T σ (wL.getD k []) = true ↔ k = j)) (hj : j ≠ 3 ∧ j ≠ 5 ∧ j ≠ 9 ∧ j ≠ 12 ∧ j ≠ 13 ∧ j ≠ 14 ∧ j ≠ 15) : stmT T D σ = .error (1, tS T σ) := by
  unfold stmT
  rw [if_neg (fun q => by have := (h 3 (by decide)).mp q; omega), if_neg (fun q => by have := (h 5 (by decide)).mp q; omega), if_neg (fun q => by have := (h 9 (by decide)).mp q; omega), if_neg (fun q => by have := (h 12 (by decide)).mp q; omega), if_neg (fun q => by have := (h 13 (by decide)).mp q; omega), if_neg (fun q => by have := (h 14 (by decide)).mp q; omega), if_neg (fun q => by have := (h 15 (by decide)).mp q; omega)]
theorem h_wr1 {S : Hp} {T : Tp} {σ : Lx} {c : Nat} (ht : tR S T σ) : ∃ S', ob2 (f_X10_wrong (1 : Int32) (S.1 10 5) S) (fun r1 S1 => tr r1 (some (r1, S1))) = some ((0 : Int32), S') ∧ fR c S S' ∧ wR S' (1, tS T σ) := by
  obtain ⟨S', a1, a2, a3⟩ := h_wrong (S := S) (k := 1) (p := tS T σ) (by decide) (tS16 ht).1
  refine ⟨S', ?_, fR_t (fM_mo a3 (fun b k q => w_t q)), a2⟩
  rw [ht.2.2.2.1, show (1 : Int32) = nI 1 from rfl, a1, ob2_s]
  exact tr0
theorem h_stm {S : Hp} {T : Tp} {σ : Lx} {c np nt nw : Nat} {R : Nat → Nat → Nat} {N : Nat → Nat → List Nat} {se lo : Option (List Nat)} (h : dE S c np nt nw R N se lo) (ho : okE np nt nw R N se lo) (ht : tR S T σ) :
    ∃ r S', f_X3_statement S = some (r, S') ∧ fR c S S' ∧ cD r S' c T (stmT T ((np, nt, nw), R, N, se, lo) σ) := by
  have hk := tK5 T σ
  obtain ⟨W1, w1, w2, w3⟩ := h_wr1 (c := c) ht
  unfold f_X3_statement
  rw [ht.2.2.1]
  by_cases k1 : tK T σ = 1
  · rw [if_pos ((eqL 1 (by omega) (by decide)).mpr k1)]
    rcases (ht.2.2.2.2.2.1 k1).2 with ⟨j, j1, j2, j3⟩ | ⟨j1, j2⟩
    · have hW : ∀ k, k < 35 → (isW T σ (wL.getD k []) = true ↔ k = j) := by
        intro k hk
        constructor
        · intro q
          exact (wL_inj j j1 k hk (j3.symm.trans (isW_i.mp q).2)).symm
        · intro q
          subst q
          exact isW_i.mpr ⟨k1, j3⟩
      have e242 : f_X3_statement_242 S = some (0, W1) := w1
      rw [j2, e242]
      have hn : ∀ (i : Nat), i < 100 → j ≠ i → ¬ nI j = nI i := fun i hi q x => q ((nI_eq (by omega) (by omega)).mp x)
      by_cases q3 : j = 3
      · rw [if_pos (show nI j = (3 : Int32) by rw [q3]; rfl)]
        have e : stmT T ((np, nt, nw), R, N, se, lo) σ = prvT T ((np, nt, nw), R, N, se, lo) σ := by
          unfold stmT
          rw [if_pos ((hW 3 (by decide)).mpr q3.symm)]
        rw [e]
        exact h_sP h ho ht
      rw [if_neg (show ¬ nI j = (3 : Int32) from hn 3 (by decide) q3)]
      by_cases q4 : j = 4
      · rw [if_pos (show nI j = (4 : Int32) by rw [q4]; rfl), stm_ot hW (by omega)]
        exact ⟨0, W1, rfl, w2, rfl, w3⟩
      rw [if_neg (show ¬ nI j = (4 : Int32) from hn 4 (by decide) q4)]
      by_cases q5 : j = 5
      · rw [if_pos (show nI j = (5 : Int32) by rw [q5]; rfl)]
        have e : stmT T ((np, nt, nw), R, N, se, lo) σ = trkT T ((np, nt, nw), R, N, se, lo) σ := by
          unfold stmT
          rw [if_neg (fun q => by have := (hW 3 (by decide)).mp q; omega), if_pos ((hW 5 (by decide)).mpr q5.symm)]
        rw [e]
        exact h_sT2 h ho ht
      rw [if_neg (show ¬ nI j = (5 : Int32) from hn 5 (by decide) q5)]
      by_cases q6 : j = 6
      · rw [if_pos (show nI j = (6 : Int32) by rw [q6]; rfl), stm_ot hW (by omega)]
        exact ⟨0, W1, rfl, w2, rfl, w3⟩
      rw [if_neg (show ¬ nI j = (6 : Int32) from hn 6 (by decide) q6)]
      by_cases q7 : j = 7
      · rw [if_pos (show nI j = (7 : Int32) by rw [q7]; rfl), stm_ot hW (by omega)]
        exact ⟨0, W1, rfl, w2, rfl, w3⟩
      rw [if_neg (show ¬ nI j = (7 : Int32) from hn 7 (by decide) q7)]
      by_cases q8 : j = 8
      · rw [if_pos (show nI j = (8 : Int32) by rw [q8]; rfl), stm_ot hW (by omega)]
        exact ⟨0, W1, rfl, w2, rfl, w3⟩
      rw [if_neg (show ¬ nI j = (8 : Int32) from hn 8 (by decide) q8)]
      by_cases q9 : j = 9
      · rw [if_pos (show nI j = (9 : Int32) by rw [q9]; rfl)]
        have e : stmT T ((np, nt, nw), R, N, se, lo) σ = watT T ((np, nt, nw), R, N, se, lo) σ := by
          unfold stmT
          rw [if_neg (fun q => by have := (hW 3 (by decide)).mp q; omega), if_neg (fun q => by have := (hW 5 (by decide)).mp q; omega), if_pos ((hW 9 (by decide)).mpr q9.symm)]
        rw [e]
        exact h_sW2 h ho ht
      rw [if_neg (show ¬ nI j = (9 : Int32) from hn 9 (by decide) q9)]
      by_cases q10 : j = 10
      · rw [if_pos (show nI j = (10 : Int32) by rw [q10]; rfl), stm_ot hW (by omega)]
        exact ⟨0, W1, rfl, w2, rfl, w3⟩
      rw [if_neg (show ¬ nI j = (10 : Int32) from hn 10 (by decide) q10)]
      by_cases q11 : j = 11
      · rw [if_pos (show nI j = (11 : Int32) by rw [q11]; rfl), stm_ot hW (by omega)]
        exact ⟨0, W1, rfl, w2, rfl, w3⟩
      rw [if_neg (show ¬ nI j = (11 : Int32) from hn 11 (by decide) q11)]
      by_cases q12 : j = 12
      · rw [if_pos (show nI j = (12 : Int32) by rw [q12]; rfl)]
        have e : stmT T ((np, nt, nw), R, N, se, lo) σ = seeT T ((np, nt, nw), R, N, se, lo) σ := by
          unfold stmT
          rw [if_neg (fun q => by have := (hW 3 (by decide)).mp q; omega), if_neg (fun q => by have := (hW 5 (by decide)).mp q; omega), if_neg (fun q => by have := (hW 9 (by decide)).mp q; omega), if_pos ((hW 12 (by decide)).mpr q12.symm)]
        rw [e]
        exact h_see h ht (by rw [j2, q12])
      rw [if_neg (show ¬ nI j = (12 : Int32) from hn 12 (by decide) q12)]
      by_cases q13 : j = 13
      · rw [if_pos (show nI j = (13 : Int32) by rw [q13]; rfl)]
        have e : stmT T ((np, nt, nw), R, N, se, lo) σ = losT T ((np, nt, nw), R, N, se, lo) σ := by
          unfold stmT
          rw [if_neg (fun q => by have := (hW 3 (by decide)).mp q; omega), if_neg (fun q => by have := (hW 5 (by decide)).mp q; omega), if_neg (fun q => by have := (hW 9 (by decide)).mp q; omega), if_neg (fun q => by have := (hW 12 (by decide)).mp q; omega), if_pos ((hW 13 (by decide)).mpr q13.symm)]
        rw [e]
        exact h_los h ht (by rw [j2, q13])
      rw [if_neg (show ¬ nI j = (13 : Int32) from hn 13 (by decide) q13)]
      by_cases q14 : j = 14
      · rw [if_pos (show nI j = (14 : Int32) by rw [q14]; rfl)]
        have e : stmT T ((np, nt, nw), R, N, se, lo) σ = belT T ((np, nt, nw), R, N, se, lo) σ := by
          unfold stmT
          rw [if_neg (fun q => by have := (hW 3 (by decide)).mp q; omega), if_neg (fun q => by have := (hW 5 (by decide)).mp q; omega), if_neg (fun q => by have := (hW 9 (by decide)).mp q; omega), if_neg (fun q => by have := (hW 12 (by decide)).mp q; omega), if_neg (fun q => by have := (hW 13 (by decide)).mp q; omega), if_pos ((hW 14 (by decide)).mpr q14.symm)]
        rw [e]
        obtain ⟨r, S', a1, a2, a3⟩ := h_set (lw := 1) (hw := 100) h ht (by decide) (by decide) (Or.inl ⟨rfl, rfl⟩)
        have a1' : f_X3_beliefAtFirst S = some (r, S') := a1
        rw [a1', ob2_s, tr01 (cD_01 a3)]
        exact ⟨r, S', rfl, a2, a3⟩
      rw [if_neg (show ¬ nI j = (14 : Int32) from hn 14 (by decide) q14)]
      by_cases q15 : j = 15
      · rw [if_pos (show nI j = (15 : Int32) by rw [q15]; rfl)]
        have e : stmT T ((np, nt, nw), R, N, se, lo) σ = boyT T ((np, nt, nw), R, N, se, lo) σ := by
          unfold stmT
          rw [if_neg (fun q => by have := (hW 3 (by decide)).mp q; omega), if_neg (fun q => by have := (hW 5 (by decide)).mp q; omega), if_neg (fun q => by have := (hW 9 (by decide)).mp q; omega), if_neg (fun q => by have := (hW 12 (by decide)).mp q; omega), if_neg (fun q => by have := (hW 13 (by decide)).mp q; omega), if_neg (fun q => by have := (hW 14 (by decide)).mp q; omega), if_pos ((hW 15 (by decide)).mpr q15.symm)]
        rw [e]
        obtain ⟨r, S', a1, a2, a3⟩ := h_set (lw := 0) (hw := 100) h ht (by decide) (by decide) (Or.inr ⟨rfl, rfl⟩)
        have a1' : f_X3_boysOfHundred S = some (r, S') := a1
        rw [a1', ob2_s, tr01 (cD_01 a3)]
        exact ⟨r, S', rfl, a2, a3⟩
      rw [if_neg (show ¬ nI j = (15 : Int32) from hn 15 (by decide) q15), stm_ot hW ⟨q3, q5, q9, q12, q13, q14, q15⟩]
      exact ⟨0, W1, rfl, w2, rfl, w3⟩
    · have e242 : f_X3_statement_242 S = some (0, W1) := w1
      rw [j1, e242, if_neg (by decide), if_neg (by decide), if_neg (by decide), if_neg (by decide), if_neg (by decide), if_neg (by decide), if_neg (by decide), if_neg (by decide), if_neg (by decide), if_neg (by decide), if_neg (by decide), if_neg (by decide), if_neg (by decide), stm_no (fun k hk q => j2 k hk (isW_i.mp q).2)]
      exact ⟨0, W1, rfl, w2, rfl, w3⟩
  · rw [if_neg (fun q => k1 ((eqL 1 (by omega) (by decide)).mp q)), stm_no (fun k hk q => k1 (isW_i.mp q).1)]
    exact ⟨0, W1, w1, w2, rfl, w3⟩
def fQ (c : Nat) (S S' : Hp) : Prop := (∀ b k, ¬ (rP c b k ∨ (b = 20 ∧ k = 4)) → S'.1 b k = S.1 b k) ∧ S'.2.1 = S.2.1 ∧ (∀ b k, ¬ (b = 25 ∧ k = 1) → S'.2.2 b k = S.2.2 b k)
theorem fQ_r {c : Nat} {S S' : Hp} (h : fR c S S') : fQ c S S' := ⟨fun b k hb => h.1 b k (fun q => hb (Or.inl q)), h.2⟩
theorem fQ_tr {c : Nat} {S S1 S2 : Hp} (h1 : fQ c S S1) (h2 : fQ c S1 S2) : fQ c S S2 := ⟨fun b k h => (h2.1 b k h).trans (h1.1 b k h), h2.2.1.trans h1.2.1, fun b k h => (h2.2.2 b k h).trans (h1.2.2 b k h)⟩
theorem fQ_4 {c : Nat} (S : Hp) {v : Int32} : fQ c S (ho_sI S 20 4 v) := ⟨fun b k hb => (fM_sI (P := fun b k => b = 20 ∧ k = 4) S ⟨rfl, rfl⟩).1 b k (fun q => hb (Or.inr q)), rfl, fun _ _ _ => rfl⟩
/-- the statements behind the first one -/
theorem h_ri50 {T : Tp} {c : Nat} : ∀ (d n K : Nat) (D : Dr) (σ : Lx) (S : Hp), n + d = 60 → d < K → dD S c D → okD D → tR S T σ → S.1 20 4 = nI n →
    ∃ r S', f_X3_readInto_50 c K S = some (r, S') ∧ fQ c S S' ∧ (∀ D1 n1, stmL T d D n σ = .ok (D1, n1) → r = 1 ∧ dD S' c D1 ∧ okD D1 ∧ S'.1 20 4 = nI n1 ∧ S'.1 10 2 = 0 ∧ S'.1 10 3 = -1 ∧ n1 ≤ 60) ∧ (∀ e, stmL T d D n σ = .error e → r = 0 ∧ wR S' e) := by
  intro d
  induction d with
  | zero =>
    intro n K D σ S hn hK hD ho ht h4
    obtain ⟨K, rfl⟩ : ∃ q, K = q + 1 := ⟨K - 1, by omega⟩
    have hk := tK5 T σ
    have e60 : ¬ ((60 : Int32) ≤ nI n) → False := fun q => q ((geL 60 (by omega) (by decide)).mpr (by omega))
    rw [f_X3_readInto_50, h4, if_pos (Classical.byContradiction e60), stmL]
    unfold f_X3_readInto_103 f_X3_readInto_131
    rw [ht.2.2.1]
    by_cases k0 : tK T σ = 0
    · rw [if_pos (show nI (tK T σ) = 0 by rw [k0]; rfl), if_pos k0]
      exact ⟨1, S, rfl, fQ_r (fR_rf c S), (fun D1 n1 q => by cases q; exact ⟨rfl, hD, ho, h4, ht.1.2.2.2.2.1, ht.1.2.2.2.2.2, by omega⟩), (fun e q => by cases q)⟩
    · obtain ⟨S', a1, a2, a3⟩ := h_wrong (S := S) (k := 5) (p := tS T σ) (by decide) (tS16 ht).1
      rw [if_neg (nI_ne0 (by omega) (by omega)), if_neg k0, ht.2.2.2.1, show (5 : Int32) = nI 5 from rfl, a1, ob2_s, if_pos rfl]
      exact ⟨0, S', rfl, fQ_r (fR_t (fM_mo a3 (fun b k q => w_t q))), (fun D1 n1 q => by cases q), (fun e q => by cases q; exact ⟨rfl, a2⟩)⟩
  | succ d ih =>
    intro n K D σ S hn hK hD ho ht h4
    obtain ⟨K, rfl⟩ : ∃ q, K = q + 1 := ⟨K - 1, by omega⟩
    have hk := tK5 T σ
    rw [f_X3_readInto_50, h4, if_neg (fun q => absurd ((geL 60 (by omega) (by decide)).mp q) (by omega)), ht.2.2.1, stmL]
    by_cases k0 : tK T σ = 0
    · rw [if_pos (show nI (tK T σ) = 0 by rw [k0]; rfl), if_pos k0]
      unfold f_X3_readInto_103 f_X3_readInto_131
      rw [ht.2.2.1, if_pos (show nI (tK T σ) = 0 by rw [k0]; rfl)]
      exact ⟨1, S, rfl, fQ_r (fR_rf c S), (fun D1 n1 q => by cases q; exact ⟨rfl, hD, ho, h4, ht.1.2.2.2.2.1, ht.1.2.2.2.2.2, by omega⟩), (fun e q => by cases q)⟩
    · rw [if_neg (nI_ne0 (by omega) (by omega)), if_neg k0]
      obtain ⟨⟨np, nt, nw⟩, R, N, se, lo⟩ := D
      obtain ⟨r1, S1, a1, a2, a3⟩ := h_stm (show dE S c np nt nw R N se lo from hD) (show okE np nt nw R N se lo from ho) ht
      rw [a1, ob2_s]
      cases x : stmT T ((np, nt, nw), R, N, se, lo) σ with
      | error e =>
        rw [x] at a3
        rw [if_pos a3.1]
        exact ⟨0, S1, rfl, fQ_r a2, (fun D1 n1 q => by cases q), (fun e q => by cases q; exact ⟨rfl, a3.2⟩)⟩
      | ok v =>
        rw [x] at a3
        obtain ⟨D1, σ1⟩ := v
        obtain ⟨b1, b2, b3⟩ := a3
        have hok := okD_s ht.1.1 ht.2.1 ho x
        obtain ⟨r2, S2, c1, c2, c3⟩ := h_tkG (c := 59) b2 (by decide)
        have c1' : f_X10_takeSign (59 : Int32) S1 = some (r2, S2) := c1
        rw [if_neg (by rw [b1]; exact ne1), c1', ob2_s, bn_k]
        cases y : tkG T 59 σ1 with
        | error e =>
          rw [y] at c2
          rw [if_pos c2.1]
          exact ⟨0, S2, rfl, fQ_r (fR_tr a2 (fR_t c3)), (fun D1 n1 q => by cases q), (fun e q => by cases q; exact ⟨rfl, c2.2⟩)⟩
        | ok σ2 =>
          rw [y] at c2
          have e4 : S2.1 20 4 = S1.1 20 4 := c3.1 20 4 (tP_hi (by decide))
          rw [if_neg (by rw [c2.1]; exact ne1), le1_e, bs_k]
          have d2 : dD S2 c D1 := dE_t b3 c3
          have hcc := dE_c d2
          obtain ⟨S3, hS3⟩ : ∃ S3, S3 = ho_sI S2 20 4 (S2.1 20 4 + 1) := ⟨_, rfl⟩
          rw [← hS3]
          have d3 : dD S3 c D1 := dE_f d2 (by rw [hS3]; rfl) (by rw [hS3, sI_k (by decide)]) (fun b k _ _ => by rw [hS3, sI_ne _ (by omega)])
          have t3 : tR S3 T σ2 := by rw [hS3]; exact tR_hi c2.2 (by decide)
          have f3 : fQ c S S3 := fQ_tr (fQ_r (fR_tr a2 (fR_t c3))) (by rw [hS3]; exact fQ_4 S2)
          have e5 : S1.1 20 4 = nI n := by rw [a2.1 20 4 (by unfold rP; omega)]; exact h4
          obtain ⟨r, S', g1, g2, g3, g4⟩ := ih (n + 1) K D1 σ2 S3 (by omega) (by omega) d3 hok.2 t3 (by rw [hS3, sI_v, e4, e5, nI_1])
          exact ⟨r, S', g1, fQ_tr f3 g2, g3, g4⟩
