/-! level 2: tests move on along the text -/
theorem anL_mv {T : Tp} {P : Lx → Ps} (hP : mv T P) : ∀ (k : Nat) (cs : List Nat) (σ : Lx) (cs1 : List Nat) (σ1 : Lx), σ.1 ≤ T.2 → anL T P k cs σ = .ok (cs1, σ1) → σ.1 + cs1.length ≤ σ1.1 + cs.length ∧ σ.1 ≤ σ1.1 ∧ σ1.1 ≤ T.2
  | 0, cs, σ, cs1, σ1, h, e => by
    rw [anL] at e
    cases e
    exact ⟨Nat.le_refl _, Nat.le_refl _, h⟩
  | k + 1, cs, σ, cs1, σ1, h, e => by
    rw [anL] at e
    by_cases q1 : isW T σ wAnd = true
    · rw [if_pos q1] at e
      obtain ⟨a, σ2, e1, e2⟩ := bn_ok e
      obtain ⟨n1, n2⟩ := nx_mv h (isW_k q1)
      obtain ⟨m1, m2, m3⟩ := hP _ _ _ n2 e1
      obtain ⟨r1, r2, r3⟩ := anL_mv hP k _ _ _ _ m3 e2
      simp only [List.length_append, List.length_cons, List.length_nil] at r1
      omega
    · rw [if_neg q1] at e
      cases e
      exact ⟨Nat.le_refl _, Nat.le_refl _, h⟩
theorem an_mv {T : Tp} {P : Lx → Ps} (hP : mv T P) : mv T (an T P) := by
  intro σ cs σ1 h e
  obtain ⟨a, σ2, e1, e2⟩ := bn_ok e
  obtain ⟨m1, m2, m3⟩ := hP _ _ _ h e1
  obtain ⟨r1, r2, r3⟩ := anL_mv hP _ _ _ _ _ m3 e2
  omega
theorem orL_mv {T : Tp} {P : Lx → Ps} (hP : mv T P) : ∀ (k : Nat) (cs : List Nat) (σ : Lx) (cs1 : List Nat) (σ1 : Lx), σ.1 ≤ T.2 → orL T P k cs σ = .ok (cs1, σ1) → σ.1 + cs1.length ≤ σ1.1 + cs.length ∧ σ.1 ≤ σ1.1 ∧ σ1.1 ≤ T.2
  | 0, cs, σ, cs1, σ1, h, e => by
    rw [orL] at e
    cases e
    exact ⟨Nat.le_refl _, Nat.le_refl _, h⟩
  | k + 1, cs, σ, cs1, σ1, h, e => by
    rw [orL] at e
    by_cases q1 : isW T σ wOr = true
    · rw [if_pos q1] at e
      obtain ⟨a, σ2, e1, e2⟩ := bn_ok e
      obtain ⟨n1, n2⟩ := nx_mv h (isW_k q1)
      obtain ⟨m1, m2, m3⟩ := an_mv hP _ _ _ n2 e1
      obtain ⟨r1, r2, r3⟩ := orL_mv hP k _ _ _ _ m3 e2
      simp only [List.length_append, List.length_cons, List.length_nil] at r1
      omega
    · rw [if_neg q1] at e
      cases e
      exact ⟨Nat.le_refl _, Nat.le_refl _, h⟩
theorem ts_mv {T : Tp} {P : Lx → Ps} (hP : mv T P) : mv T (ts T P) := by
  intro σ cs σ1 h e
  obtain ⟨a, σ2, e1, e2⟩ := bn_ok e
  obtain ⟨m1, m2, m3⟩ := an_mv hP _ _ _ h e1
  obtain ⟨r1, r2, r3⟩ := orL_mv hP _ _ _ _ _ m3 e2
  omega
theorem cmC_k {T : Tp} {σ : Lx} (h : ¬ cmC T σ = 0) : tK T σ ≠ 0 := by
  unfold cmC at h
  by_cases q1 : isG T σ 60 = true
  · exact isG_k q1
  rw [if_neg q1] at h
  by_cases q2 : isG T σ 62 = true
  · exact isG_k q2
  rw [if_neg q2] at h
  by_cases q3 : isG T σ 61 = true
  · exact isG_k q3
  rw [if_neg q3] at h
  exact absurd rfl h
theorem cm_mv {T : Tp} {P : Lx → Ps} (hP : mv T P) : mv T (cm T P) := by
  intro σ cs σ1 h e
  obtain ⟨c1, σ2, e1, e2⟩ := bn_ok e
  obtain ⟨m1, m2, m3⟩ := sm_mv hP _ _ _ h e1
  by_cases q : cmC T σ2 = 0
  · rw [if_pos q] at e2; cases e2
  · rw [if_neg q] at e2
    obtain ⟨c2, σ3, e3, e4⟩ := bn_ok e2
    obtain ⟨n1, n2⟩ := nx_mv m3 (cmC_k q)
    obtain ⟨m4, m5, m6⟩ := sm_mv hP _ _ _ n2 e3
    cases e4
    simp only [List.length_append, List.length_cons, List.length_nil]
    omega
theorem fcB_mv {T : Tp} {O : Option (Lx → Ps)} {P : Lx → Ps} (hO : ∀ F, O = some F → mv T F) (hP : mv T P) : mv T (fcB T O P) := by
  intro σ cs σ1 h e
  unfold fcB at e
  by_cases q1 : isW T σ wNot = true
  · rw [if_pos q1] at e
    cases O with
    | none => cases e
    | some F =>
      rw [opn_s] at e
      obtain ⟨c1, σ2, e1, e2⟩ := bn_ok e
      obtain ⟨n1, n2⟩ := nx_mv h (isW_k q1)
      obtain ⟨m1, m2, m3⟩ := hO F rfl _ _ _ n2 e1
      cases e2
      simp only [List.length_append, List.length_cons, List.length_nil]
      omega
  rw [if_neg q1] at e
  by_cases q2 : isG T σ 91 = true
  · rw [if_pos q2] at e
    cases O with
    | none => cases e
    | some F =>
      rw [opn_s] at e
      obtain ⟨c1, σ2, e1, e2⟩ := bn_ok e
      obtain ⟨σ3, e3, e4⟩ := bs_ok e2
      obtain ⟨g, rfl⟩ := tkG_ok e3
      obtain ⟨n1, n2⟩ := nx_mv h (isG_k q2)
      obtain ⟨m1, m2, m3⟩ := ts_mv (hO F rfl) _ _ _ n2 e1
      obtain ⟨n3, n4⟩ := nx_mv m3 (isG_k g)
      cases e4
      omega
  rw [if_neg q2] at e
  by_cases q3 : isW T σ wAll = true
  · rw [if_pos q3] at e
    obtain ⟨n1, n2⟩ := nx_mv h (isW_k q3)
    cases e
    exact ⟨n1, n1, n2⟩
  rw [if_neg q3] at e
  exact cm_mv hP _ _ _ h e
theorem fcD_mv (T : Tp) (m : Nat) : ∀ d, mv T (fcD T m d)
  | 0 => fcB_mv (fun F h => by cases h) (ptD_mv T m 0)
  | d + 1 => fcB_mv (fun F h => by cases h; exact fcD_mv T m d) (ptD_mv T m (d + 1))
