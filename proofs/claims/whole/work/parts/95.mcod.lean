/-! level 2: the reference reads a crown: sums, statements, all of it -/
theorem lsC_get {S : Hp} {a : Nat} {l : List Nat} (h : lsC S a l) {j : Nat} (hj : j < l.length) : S.1 a j = nI l[j] := by
  rw [h j hj, List.getD_eq_getElem?_getD, List.getElem?_eq_getElem hj]
  rfl
theorem m_c80 {w tot : Nat} {cs : List Nat} (hw : w < 2) (hl : tot + cs.length ≤ 1600) : ∀ (d i K : Nat) (S : Hp), i + d = cs.length → d < K → S.1 0 100 = nI cs.length → lsC S 100 cs → S.1 0 50 = nI (tot + i) → (∀ j (h : j < cs.length), j < i → S.1 50 (tot + j) = nI cs[j]) →
    ∃ S', f_X12_codesTold_80 K (nI w) (nI i) S = some S' ∧ S'.1 0 50 = nI (tot + cs.length) ∧ S'.1 49 w = nI (tot + cs.length) ∧ (∀ j (h : j < cs.length), S'.1 50 (tot + j) = nI cs[j]) ∧ fM (fun b k => (b = 0 ∧ k = 50) ∨ (b = 49 ∧ k = w) ∨ (b = 50 ∧ tot ≤ k ∧ k < 1600)) S S' := by
  intro d
  induction d with
  | zero =>
    intro i K S hi hK h1 h2 h3 h4
    obtain ⟨K, rfl⟩ : ∃ q, K = q + 1 := ⟨K - 1, by omega⟩
    have ei : i = cs.length := by omega
    refine ⟨ho_sI S 49 w (nI (tot + cs.length)), ?_, ?_, sI_v, fun j hj => ?_, fM_sI S (Or.inr (Or.inl ⟨rfl, rfl⟩))⟩
    · rw [f_X12_codesTold_80, h1, if_pos (nI_le (by omega) (by omega)), stI_n (by omega) (by decide), h3, ei]
    · rw [sI_ne _ (by decide), h3, ei]
    · rw [sI_ne _ (by decide)]; exact h4 j hj (by omega)
  | succ d ih =>
    intro i K S hi hK h1 h2 h3 h4
    obtain ⟨K, rfl⟩ : ∃ q, K = q + 1 := ⟨K - 1, by omega⟩
    have hi2 : i < cs.length := by omega
    have f1 : fM (fun b k => (b = 0 ∧ k = 50) ∨ (b = 49 ∧ k = w) ∨ (b = 50 ∧ tot ≤ k ∧ k < 1600)) S (ho_sI (ho_sI S 50 (tot + i) (nI cs[i])) 0 50 (nI (tot + i + 1))) := fM_tr (fM_sI S (by omega)) (fM_sI _ (by omega))
    obtain ⟨S', a1, a2, a3, a4, a5⟩ := ih (i + 1) K (ho_sI (ho_sI S 50 (tot + i) (nI cs[i])) 0 50 (nI (tot + i + 1))) (by omega) (by omega) (by rw [sI_k (by decide), sI_ne _ (by decide)]; exact h1) (fun j hj => by rw [sI_ne _ (by decide), sI_ne _ (by decide)]; exact h2 j hj) sI_v (fun j hj hj2 => by
      rw [sI_ne _ (by decide)]
      by_cases e : j = i
      · subst e; rw [sI_v]
      · rw [sI_k (by omega)]; exact h4 j hj (by omega))
    refine ⟨S', ?_, a2, a3, a4, fM_tr f1 a5⟩
    rw [f_X12_codesTold_80, h1, if_neg (nI_ge hi2 (by omega)), ldI_n (by omega) (by decide), lsC_get h2 hi2, h3, stI_n (by omega) (by decide), le1_e, sI_ne _ (by decide), h3, nI_1, le1_e, nI_1]
    exact a1
theorem m_cod {S : Hp} {T : Tp} {σ : Lx} {w tot : Nat} (hw : w < 2) (hl : lR S T (nx T σ)) (hW : mWs S) (ht : tot ≤ σ.1) (h50 : S.1 0 50 = nI tot) (h48 : S.1 48 w = -1) :
    (∀ e, sm T (ptD T w 6) (nx T σ) = .error e → ∃ S', f_X12_codesTold (nI w) (nI (tS T σ)) S = some S' ∧ bR S' e ∧ fM (fun b k => pP b k ∨ (b = 0 ∧ k = 53)) S S') ∧ (∀ cs σ1, sm T (ptD T w 6) (nx T σ) = .ok (cs, σ1) → ∃ S', f_X12_codesTold (nI w) (nI (tS T σ)) S = some S' ∧ lR S' T σ1 ∧ mWs S' ∧ tot + cs.length ≤ σ1.1 ∧ S'.1 48 w = nI tot ∧ S'.1 49 w = nI (tot + cs.length) ∧ S'.1 0 50 = nI (tot + cs.length) ∧ (∀ j (h : j < cs.length), S'.1 50 (tot + j) = nI cs[j]) ∧ fM (fun b k => pP b k ∨ (b = 0 ∧ (k = 53 ∨ k = 50)) ∨ (b = 48 ∧ k = w) ∨ (b = 49 ∧ k = w) ∨ (b = 50 ∧ tot ≤ k ∧ k < 1600)) S S') := by
  obtain ⟨S5, hS5⟩ : ∃ S5, S5 = ho_sI (ho_sI (ho_sI (ho_sI (ho_sI S 0 53 (nI w)) 0 100 0) 0 102 0) 0 103 0) 0 104 0 := ⟨_, rfl⟩
  have g5 : ∀ b k, ¬ (b = 0 ∧ (k = 53 ∨ k = 100 ∨ k = 102 ∨ k = 103 ∨ k = 104)) → S5.1 b k = S.1 b k := by
    intro b k hb
    rw [hS5]
    by_cases e : b = 0
    · subst e
      rw [sI_k (by omega), sI_k (by omega), sI_k (by omega), sI_k (by omega), sI_k (by omega)]
    · rw [sI_ne _ e, sI_ne _ e, sI_ne _ e, sI_ne _ e, sI_ne _ e]
  have l5 : lR S5 T (nx T σ) := lR_hi hl (fun k hk => g5 0 k (by omega)) (fun i => g5 1 i (by omega))
  have w5 : mWs S5 := mWs_hi hW (fun b k q => g5 b k (by omega))
  have q5 : qR S5 T w (nx T σ) [] [] (6 - 6) 0 := by
    refine ⟨l5, ⟨?_, by omega⟩, w5, ⟨?_, fun i hi => absurd hi (by simp)⟩, ⟨?_, fun i hi => absurd hi (by simp)⟩, ?_, ?_⟩
    · rw [hS5, sI_k (by decide), sI_k (by decide), sI_k (by decide), sI_k (by decide), sI_v]
    · rw [hS5, sI_k (by decide), sI_k (by decide), sI_v]; rfl
    · rw [hS5, sI_k (by decide), sI_k (by decide), sI_k (by decide), sI_v]; rfl
    · rw [hS5, sI_k (by decide), sI_v]; rfl
    · rw [hS5, sI_v]; rfl
  have f5 : fM (fun b k => pP b k ∨ (b = 0 ∧ k = 53)) S S5 := ⟨fun b k hb => g5 b k (fun q => hb (by unfold pP; omega)), by rw [hS5]; rfl⟩
  obtain ⟨m1, m2⟩ := m_sums (S := S5) (T := T) (m := w) (d := 6) (b0 := 0) (σ := nx T σ) (W := []) (Cs := []) (Nat.le_refl _) q5 (fun y h => by cases h) (fun y h => by cases h) (by simp)
  have key : f_X12_codesTold (nI w) (nI (tS T σ)) S = ob (f_X12_qSums S5) (fun S6 => if (S6.1 0 5) = 0 then stI S6 48 4 (nI w) (S6.1 0 50) (fun S7 => f_X12_codesTold_80 5000 (nI w) (0 : Int32) S7) else some S6) := by
    unfold f_X12_codesTold f_X12_codesTold_23
    rw [if_pos hl.2.2.1, ldI_n (by omega) (by decide), h48, if_pos rfl, if_pos hl.2.2.1, le1_e, le1_e, le1_e, le1_e, le1_e, hS5]
  rw [key]
  constructor
  · intro e x
    obtain ⟨S6, a1, a2, -, a4⟩ := m2 e x
    rw [a1, ob_s, if_neg (bR_0 a2)]
    exact ⟨S6, rfl, a2, fM_tr f5 (fM_mo a4 (fun b k q => Or.inl q))⟩
  · intro cs σ1 x
    obtain ⟨S6, a1, a2, a3⟩ := m1 cs σ1 x
    have hmv := sm_mv (ptD_mv T w 6) _ _ _ hl.2.1 x
    have hn := nx_ge T σ
    have hT := hl.1.1
    obtain ⟨b1, b2, b3, ⟨-, -⟩, ⟨b4, b5⟩, -, -⟩ := a2
    rw [List.nil_append] at b4 b5
    have e50 : S6.1 0 50 = nI tot := by rw [a3.1 0 50 (by unfold pP; omega), g5 0 50 (by omega)]; exact h50
    rw [a1, ob_s, if_pos b1.2.2.1, stI_n (by omega) (by decide), e50]
    obtain ⟨S7, c1, c2, c3, c4, c5⟩ := m_c80 (w := w) (tot := tot) (cs := cs) hw (by omega) cs.length 0 5000 (ho_sI S6 48 w (nI tot)) (by omega) (by omega) (by rw [sI_ne _ (by decide)]; exact b4) (fun j hj => by rw [sI_ne _ (by decide)]; exact b5 j hj) (by rw [sI_ne _ (by decide)]; exact e50) (fun j hj hj2 => absurd hj2 (by omega))
    have fT : fM (fun b k => pP b k ∨ (b = 0 ∧ (k = 53 ∨ k = 50)) ∨ (b = 48 ∧ k = w) ∨ (b = 49 ∧ k = w) ∨ (b = 50 ∧ tot ≤ k ∧ k < 1600)) S6 S7 := fM_tr (fM_sI S6 (by omega)) (fM_mo c5 (fun b k q => by omega))
    refine ⟨S7, c1, lR_hi b1 (fun k hk => ?_) (fun i => ?_), mWs_hi b3 (fun b k q => ?_), (by omega), ?_, c3, c2, c4, fM_tr (fM_mo f5 (fun b k q => q.elim Or.inl (fun x => Or.inr (Or.inl ⟨x.1, Or.inl x.2⟩)))) (fM_tr (fM_mo a3 (fun b k q => Or.inl q)) fT)⟩
    · rw [c5.1 0 k (by first | decide | (dsimp only; omega) | omega), sI_ne _ (by decide)]
    · rw [c5.1 1 i (by first | decide | (dsimp only; omega) | omega), sI_ne _ (by decide)]
    · rw [c5.1 b k (by first | decide | (dsimp only; omega) | omega), sI_ne _ (by omega)]
    · rw [c5.1 48 w (by first | decide | (dsimp only; omega) | omega), sI_v]
theorem m_see {S : Hp} {T : Tp} {σ : Lx} {np nt nw tot : Nat} {R : Nat → Nat → Nat} {N : Nat → Nat → List Nat} {se lo : Option (List Nat)} (h : mE S np nt nw R N se lo tot) (ho : okE np nt nw R N se lo) (ht : tot ≤ σ.1) (hT : tS T σ ≤ 1600) (hl : lR S T (nx T σ)) :
    ∃ S', f_X12_codesTold (0 : Int32) (nI (tS T σ)) S = some S' ∧ fJ cJ S S' ∧ kD S' T (seeT T ((np, nt, nw), R, N, se, lo) σ) := by
  have hW := h.2.2.2.2.2.2.2.2.2
  have h1600 := hl.1.1
  unfold seeT
  dsimp only
  cases se with
  | some c0 =>
    obtain ⟨f, f1, f2, -, -⟩ := h.2.2.2.2.2.2.2.1
    obtain ⟨S', a1, a2, a3⟩ := m_fail (S := S) (k := 5) (p := tS T σ) hl.2.2.1 (by decide) hT
    rw [if_pos (show (some c0).isSome = true from rfl)]
    refine ⟨S', ?_, fJ_l a3, a2⟩
    have hs := hl.2.1
    have hn := nx_ge T σ
    unfold f_X12_codesTold f_X12_codesTold_23
    rw [if_pos hl.2.2.1, ldI_L 0 (by decide) (by decide), f2, if_neg (fun q => by
      have := congrArg Int32.toInt q
      rw [nI_toInt (by omega)] at this
      have e : ((-1 : Int32)).toInt = -1 := by decide
      omega), show (5 : Int32) = nI 5 from rfl, a1, ob_s, if_neg (bR_0 a2)]
  | none =>
    rw [if_neg (by decide)]
    obtain ⟨u1, u2⟩ := m_cod (w := 0) (by decide) hl hW ht h.2.2.2.2.2.2.1 h.2.2.2.2.2.2.2.1
    cases x : sm T (ptD T 0 6) (nx T σ) with
    | error e =>
      obtain ⟨S', a1, a2, a3⟩ := u1 e x
      exact ⟨S', a1, fJ_m a3 (fun b k q => q.elim p_j (fun x => by obtain ⟨rfl, rfl⟩ := x; exact cj_0 (by omega))), a2⟩
    | ok v =>
      obtain ⟨cs, σ1⟩ := v
      obtain ⟨S', a1, a2, a3, a4, a5, a6, a7, a8, a9⟩ := u2 cs σ1 x
      have h9 := a2.2.1
      refine ⟨S', a1, fJ_m a9 (fun b k q => by
        rcases q with q | ⟨rfl, q⟩ | ⟨rfl, rfl⟩ | ⟨rfl, rfl⟩ | ⟨rfl, q⟩
        · exact p_j q
        · exact cj_0 (by omega)
        · exact cj_48 (by omega)
        · exact cj_49 (by omega)
        · exact cj_50 q.2), a2, tot + cs.length, a4, ?_⟩
      show mE S' np nt nw R N (some cs) lo (tot + cs.length)
      obtain ⟨q1, q2, q3, q4, q5, q6, q7, q8, q9, q10⟩ := h
      have g : ∀ b k, 40 < b → b < 48 → S'.1 b k = S.1 b k := fun b k h1 h2 => a9.1 b k (by unfold pP; omega)
      refine ⟨?_, ?_, fun p hp => ?_, fun p hp => ?_, fun p hp => ?_, fun k hk i hi => ?_, a7, ⟨tot, Nat.le_refl _, a5, a6, a8⟩, ?_, a3⟩
      · rw [g _ _ (by decide) (by decide), g _ _ (by decide) (by decide), g _ _ (by decide) (by decide)]; exact q1
      · rw [g _ _ (by decide) (by decide), g _ _ (by decide) (by decide), g _ _ (by decide) (by decide), g _ _ (by decide) (by decide), g _ _ (by decide) (by decide)]; exact q2
      · rw [g _ _ (by decide) (by decide), g _ _ (by decide) (by decide)]; exact q3 p hp
      · rw [g _ _ (by decide) (by decide), g _ _ (by decide) (by decide), g _ _ (by decide) (by decide)]; exact q4 p hp
      · rw [g _ _ (by decide) (by decide), g _ _ (by decide) (by decide)]; exact q5 p hp
      · rw [a9.2]; exact q6 k hk i hi
      · have hm : mO S' 1 lo tot := mO_f q9 (a9.1 48 1 (by unfold pP; omega)) (a9.1 49 1 (by unfold pP; omega)) (fun j hj => a9.1 50 j (by unfold pP; omega))
        cases lo with
        | none => exact hm
        | some c1 =>
          obtain ⟨f, b1, b2⟩ := hm
          exact ⟨f, by omega, b2⟩
theorem m_los {S : Hp} {T : Tp} {σ : Lx} {np nt nw tot : Nat} {R : Nat → Nat → Nat} {N : Nat → Nat → List Nat} {se lo : Option (List Nat)} (h : mE S np nt nw R N se lo tot) (ho : okE np nt nw R N se lo) (ht : tot ≤ σ.1) (hT : tS T σ ≤ 1600) (hl : lR S T (nx T σ)) :
    ∃ S', f_X12_codesTold (1 : Int32) (nI (tS T σ)) S = some S' ∧ fJ cJ S S' ∧ kD S' T (losT T ((np, nt, nw), R, N, se, lo) σ) := by
  have hW := h.2.2.2.2.2.2.2.2.2
  have h1600 := hl.1.1
  unfold losT
  dsimp only
  cases lo with
  | some c0 =>
    obtain ⟨f, f1, f2, -, -⟩ := h.2.2.2.2.2.2.2.2.1
    obtain ⟨S', a1, a2, a3⟩ := m_fail (S := S) (k := 5) (p := tS T σ) hl.2.2.1 (by decide) hT
    rw [if_pos (show (some c0).isSome = true from rfl)]
    refine ⟨S', ?_, fJ_l a3, a2⟩
    have hs := hl.2.1
    have hn := nx_ge T σ
    unfold f_X12_codesTold f_X12_codesTold_23
    rw [if_pos hl.2.2.1, ldI_L 1 (by decide) (by decide), f2, if_neg (fun q => by
      have := congrArg Int32.toInt q
      rw [nI_toInt (by omega)] at this
      have e : ((-1 : Int32)).toInt = -1 := by decide
      omega), show (5 : Int32) = nI 5 from rfl, a1, ob_s, if_neg (bR_0 a2)]
  | none =>
    rw [if_neg (by decide)]
    obtain ⟨u1, u2⟩ := m_cod (w := 1) (by decide) hl hW ht h.2.2.2.2.2.2.1 h.2.2.2.2.2.2.2.2.1
    cases x : sm T (ptD T 1 6) (nx T σ) with
    | error e =>
      obtain ⟨S', a1, a2, a3⟩ := u1 e x
      exact ⟨S', a1, fJ_m a3 (fun b k q => q.elim p_j (fun x => by obtain ⟨rfl, rfl⟩ := x; exact cj_0 (by omega))), a2⟩
    | ok v =>
      obtain ⟨cs, σ1⟩ := v
      obtain ⟨S', a1, a2, a3, a4, a5, a6, a7, a8, a9⟩ := u2 cs σ1 x
      have h9 := a2.2.1
      refine ⟨S', a1, fJ_m a9 (fun b k q => by
        rcases q with q | ⟨rfl, q⟩ | ⟨rfl, rfl⟩ | ⟨rfl, rfl⟩ | ⟨rfl, q⟩
        · exact p_j q
        · exact cj_0 (by omega)
        · exact cj_48 (by omega)
        · exact cj_49 (by omega)
        · exact cj_50 q.2), a2, tot + cs.length, a4, ?_⟩
      show mE S' np nt nw R N se (some cs) (tot + cs.length)
      obtain ⟨q1, q2, q3, q4, q5, q6, q7, q8, q9, q10⟩ := h
      have g : ∀ b k, 40 < b → b < 48 → S'.1 b k = S.1 b k := fun b k h1 h2 => a9.1 b k (by unfold pP; omega)
      refine ⟨?_, ?_, fun p hp => ?_, fun p hp => ?_, fun p hp => ?_, fun k hk i hi => ?_, a7, ?_, ⟨tot, Nat.le_refl _, a5, a6, a8⟩, a3⟩
      · rw [g _ _ (by decide) (by decide), g _ _ (by decide) (by decide), g _ _ (by decide) (by decide)]; exact q1
      · rw [g _ _ (by decide) (by decide), g _ _ (by decide) (by decide), g _ _ (by decide) (by decide), g _ _ (by decide) (by decide), g _ _ (by decide) (by decide)]; exact q2
      · rw [g _ _ (by decide) (by decide), g _ _ (by decide) (by decide)]; exact q3 p hp
      · rw [g _ _ (by decide) (by decide), g _ _ (by decide) (by decide), g _ _ (by decide) (by decide)]; exact q4 p hp
      · rw [g _ _ (by decide) (by decide), g _ _ (by decide) (by decide)]; exact q5 p hp
      · rw [a9.2]; exact q6 k hk i hi
      · have hm : mO S' 0 se tot := mO_f q8 (a9.1 48 0 (by unfold pP; omega)) (a9.1 49 0 (by unfold pP; omega)) (fun j hj => a9.1 50 j (by unfold pP; omega))
        cases se with
        | none => exact hm
        | some c1 =>
          obtain ⟨f, b1, b2⟩ := hm
          exact ⟨f, by omega, b2⟩
/-- one number of a crown -/
theorem m_set {S : Hp} {T : Tp} {σ : Lx} {np nt nw tot lw hw kf kr : Nat} {R : Nat → Nat → Nat} {N : Nat → Nat → List Nat} {se lo : Option (List Nat)} (h : mE S np nt nw R N se lo tot) (ht : tot ≤ σ.1) (hl : lR S T σ) (hlw : lw < 2 ^ 31) (hhw : hw < 2 ^ 31) (hk : (kf = 0 ∧ kr = 4) ∨ (kf = 1 ∧ kr = 2)) :
    ∃ v S', f_X12_number (nI lw) (nI hw) S = some (v, S') ∧ fM lxP S S' ∧ kD (ho_sI S' 47 kf v) T (bn (tkV T lw hw σ) (fun v σ1 => .ok (((np, nt, nw), rup R 0 kr v, N, se, lo), σ1))) := by
  obtain ⟨v, S1, a1, a2, a3⟩ := m_num (lo := lw) (hi := hw) hl hlw hhw
  have h1 := mE_l h a2
  refine ⟨v, S1, a1, a2, ?_⟩
  cases x : tkV T lw hw σ with
  | error e =>
    rw [x] at a3
    obtain ⟨b1, b2, b3⟩ := a3
    exact ⟨b1, by rw [sI_ne _ (by decide)]; exact b2, by rw [sI_ne _ (by decide)]; exact b3⟩
  | ok q =>
    rw [x] at a3
    obtain ⟨v1, σ1⟩ := q
    obtain ⟨e1, e2⟩ := a3
    have := tkV_ge x
    refine ⟨lR_hi e2 (fun k _ => by rw [sI_ne _ (by decide)]) (fun i => by rw [sI_ne _ (by decide)]), tot, (show tot ≤ σ1.1 by omega), ?_⟩
    show mE (ho_sI S1 47 kf v) np nt nw (rup R 0 kr v1) N se lo tot
    obtain ⟨q1, q2, q3, q4, q5, q6, q7, q8, q9, q10⟩ := h1
    refine ⟨?_, ?_, fun p hp => ?_, fun p hp => ?_, fun p hp => ?_, q6, ?_, mO_f q8 ?_ ?_ (fun j _ => ?_), mO_f q9 ?_ ?_ (fun j _ => ?_), mWs_hi q10 (fun b k q => ?_)⟩
    · rw [sI_ne _ (by decide)]; exact q1
    · rcases hk with ⟨rfl, rfl⟩ | ⟨rfl, rfl⟩
      · rw [sI_v, sI_k (by decide), sI_ne _ (by decide), rup_s, rup_n (by omega), rup_n (by omega), rup_n (by omega), rup_n (by omega), e1]
        exact ⟨q2.1, q2.2.1, q2.2.2.1, rfl, q2.2.2.2.2⟩
      · rw [sI_v, sI_k (by decide), sI_ne _ (by decide), rup_s, rup_n (by omega), rup_n (by omega), rup_n (by omega), rup_n (by omega), e1]
        exact ⟨q2.1, q2.2.1, q2.2.2.1, q2.2.2.2.1, rfl⟩
    · rw [sI_ne _ (by decide), rup_n (by omega), rup_n (by omega)]; exact q3 p hp
    · rw [sI_ne _ (by decide), rup_n (by omega), rup_n (by omega), rup_n (by omega)]; exact q4 p hp
    · rw [sI_ne _ (by decide), rup_n (by omega), rup_n (by omega)]; exact q5 p hp
    · rw [sI_ne _ (by decide)]; exact q7
    · rw [sI_ne _ (by decide)]
    · rw [sI_ne _ (by decide)]
    · rw [sI_ne _ (by decide)]
    · rw [sI_ne _ (by decide)]
    · rw [sI_ne _ (by decide)]
    · rw [sI_ne _ (by decide)]
    · rw [sI_ne _ (by omega)]
