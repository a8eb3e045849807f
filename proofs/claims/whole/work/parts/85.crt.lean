/-! level 2: the text of a crown, read: what it tells, or the fault and its place -/
/-- counts; rows (0: need, rate, boys, debt, belief; 1 yields; 2 takes; 3 from; 4 look; 5 glass; 6 stores; 7 seats); names; sees, loses -/
abbrev Dr : Type := (Nat × Nat × Nat) × (Nat → Nat → Nat) × (Nat → Nat → List Nat) × Option (List Nat) × Option (List Nat)
def cnt (np nt nw k : Nat) : Nat := if k = 0 then np else if k = 1 then nt else nw
def dN (D : Dr) (k : Nat) : Nat := cnt D.1.1 D.1.2.1 D.1.2.2 k
def rup (R : Nat → Nat → Nat) (r i v : Nat) : Nat → Nat → Nat := fun a b => if a = r ∧ b = i then v else R a b
def nup (N : Nat → Nat → List Nat) (r i : Nat) (v : List Nat) : Nat → Nat → List Nat := fun a b => if a = r ∧ b = i then v else N a b
theorem rup_s {R : Nat → Nat → Nat} {r i v : Nat} : rup R r i v r i = v := if_pos ⟨rfl, rfl⟩
theorem rup_n {R : Nat → Nat → Nat} {r i v a b : Nat} (h : ¬ (a = r ∧ b = i)) : rup R r i v a b = R a b := if_neg h
theorem nup_s {R : Nat → Nat → List Nat} {r i : Nat} {v : List Nat} : nup R r i v r i = v := if_pos ⟨rfl, rfl⟩
theorem nup_n {R : Nat → Nat → List Nat} {r i a b : Nat} {v : List Nat} (h : ¬ (a = r ∧ b = i)) : nup R r i v a b = R a b := if_neg h
/-- the first of like names -/
def fd (f : Nat → List Nat) (w : List Nat) : Nat → Nat → Option Nat
  | 0, _ => none
  | d + 1, i => if f i = w then some i else fd f w d (i + 1)
theorem fd_ok {f : Nat → List Nat} {w : List Nat} : ∀ (d i p : Nat), fd f w d i = some p → i ≤ p ∧ p < i + d ∧ f p = w
  | 0, _, _, h => by cases h
  | d + 1, i, p, h => by
    rw [fd] at h
    by_cases e : f i = w
    · rw [if_pos e] at h; cases h; exact ⟨Nat.le_refl _, by omega, e⟩
    · rw [if_neg e] at h
      have := fd_ok d (i + 1) p h
      exact ⟨by omega, by omega, this.2.2⟩
def hasN (D : Dr) (w : List Nat) : Nat → Nat → Bool
  | 0, _ => false
  | d + 1, k => (fd (D.2.2.1 k) w (dN D k) 0).isSome || hasN D w d (k + 1)
def newN (T : Tp) (D : Dr) (σ : Lx) : Except (Nat × Nat) (List Nat) := match nmT T σ with
  | .error e => .error e
  | .ok w => if hasN D w 3 0 = true then .error (3, tS T σ) else .ok w
def be {α β : Type} (x : Except (Nat × Nat) α) (f : α → Except (Nat × Nat) β) : Except (Nat × Nat) β := match x with
  | .ok r => f r
  | .error e => .error e
def R0 : Nat → Nat → Nat := fun a b => if a = 0 ∧ b = 4 then 50 else 0
def tre (T : Tp) (σ : Lx) : Except (Nat × Nat) ((Nat → Nat → Nat) × Lx) :=
  bs (tkW T (wL.getD 0 []) σ) (fun σ1 => bn (tkV T 0 9999 σ1) (fun v1 σ2 => bs (tkW T (wL.getD 1 []) σ2) (fun σ3 => bn (tkV T 0 9999 σ3) (fun v2 σ4 => bs (tkW T (wL.getD 2 []) σ4) (fun σ5 => bn (tkV T 0 99 σ5) (fun v3 σ6 => .ok (rup (rup (rup R0 0 0 v1) 0 3 v2) 0 1 v3, σ6)))))))
def prvT (T : Tp) (D : Dr) (σ : Lx) : Except (Nat × Nat) (Dr × Lx) :=
  if D.1.1 = 6 then .error (5, tS T σ) else be (newN T D (nx T σ)) (fun w => bn (tkV T 0 9999 (nx T (nx T σ))) (fun v1 σ3 => bs (tkW T (wL.getD 4 []) σ3) (fun σ4 => bn (tkV T 0 999 σ4) (fun v2 σ5 => .ok (((D.1.1 + 1, D.1.2.1, D.1.2.2), rup (rup D.2.1 6 D.1.1 v1) 1 D.1.1 v2, nup D.2.2.1 0 D.1.1 w, D.2.2.2), σ5)))))
def trkT (T : Tp) (D : Dr) (σ : Lx) : Except (Nat × Nat) (Dr × Lx) :=
  if D.1.2.1 = 6 then .error (5, tS T σ) else be (newN T D (nx T σ)) (fun w => bs (tkW T (wL.getD 6 []) (nx T (nx T σ))) (fun σ3 => bn (tkV T 1 999 σ3) (fun v1 σ4 => bs (tkW T (wL.getD 7 []) σ4) (fun σ5 => be (nmT T σ5) (fun w2 => match fd (D.2.2.1 0) w2 D.1.1 0 with
    | none => .error (3, tS T σ5)
    | some p => bs (tkW T (wL.getD 8 []) (nx T σ5)) (fun σ7 => bn (tkV T 0 9 σ7) (fun v3 σ8 => .ok (((D.1.1, D.1.2.1 + 1, D.1.2.2), rup (rup (rup D.2.1 2 D.1.2.1 v1) 3 D.1.2.1 p) 4 D.1.2.1 v3, nup D.2.2.1 1 D.1.2.1 w, D.2.2.2), σ8))))))))
def watT (T : Tp) (D : Dr) (σ : Lx) : Except (Nat × Nat) (Dr × Lx) :=
  if D.1.2.2 = 5 then .error (5, tS T σ) else be (newN T D (nx T σ)) (fun w => bs (tkW T (wL.getD 10 []) (nx T (nx T σ))) (fun σ3 => bn (tkV T 0 9 σ3) (fun v1 σ4 => bs (tkW T (wL.getD 11 []) σ4) (fun σ5 => bn (tkV T 0 9 σ5) (fun v2 σ6 => .ok (((D.1.1, D.1.2.1, D.1.2.2 + 1), rup (rup D.2.1 7 D.1.2.2 v1) 5 D.1.2.2 v2, nup D.2.2.1 2 D.1.2.2 w, D.2.2.2), σ6))))))
def seeT (T : Tp) (D : Dr) (σ : Lx) : Except (Nat × Nat) (Dr × Lx) :=
  if D.2.2.2.1.isSome = true then .error (5, tS T σ) else bn (sm T (ptD T 0 6) (nx T σ)) (fun cs σ1 => .ok ((D.1, D.2.1, D.2.2.1, some cs, D.2.2.2.2), σ1))
def losT (T : Tp) (D : Dr) (σ : Lx) : Except (Nat × Nat) (Dr × Lx) :=
  if D.2.2.2.2.isSome = true then .error (5, tS T σ) else bn (sm T (ptD T 1 6) (nx T σ)) (fun cs σ1 => .ok ((D.1, D.2.1, D.2.2.1, D.2.2.2.1, some cs), σ1))
def belT (T : Tp) (D : Dr) (σ : Lx) : Except (Nat × Nat) (Dr × Lx) := bn (tkV T 1 100 (nx T σ)) (fun v σ1 => .ok ((D.1, rup D.2.1 0 4 v, D.2.2), σ1))
def boyT (T : Tp) (D : Dr) (σ : Lx) : Except (Nat × Nat) (Dr × Lx) := bn (tkV T 0 100 (nx T σ)) (fun v σ1 => .ok ((D.1, rup D.2.1 0 2 v, D.2.2), σ1))
def stmT (T : Tp) (D : Dr) (σ : Lx) : Except (Nat × Nat) (Dr × Lx) :=
  if isW T σ (wL.getD 3 []) = true then prvT T D σ else if isW T σ (wL.getD 5 []) = true then trkT T D σ else if isW T σ (wL.getD 9 []) = true then watT T D σ else if isW T σ (wL.getD 12 []) = true then seeT T D σ else if isW T σ (wL.getD 13 []) = true then losT T D σ else if isW T σ (wL.getD 14 []) = true then belT T D σ else if isW T σ (wL.getD 15 []) = true then boyT T D σ else .error (1, tS T σ)
/-- the statements behind the first one: how many more there may be -/
def stmL (T : Tp) : Nat → Dr → Nat → Lx → Except (Nat × Nat) (Dr × Nat)
  | 0, D, n, σ => if tK T σ = 0 then .ok (D, n) else .error (5, tS T σ)
  | d + 1, D, n, σ => if tK T σ = 0 then .ok (D, n) else bn (stmT T D σ) (fun D1 σ1 => bs (tkG T 59 σ1) (fun σ2 => stmL T d D1 (n + 1) σ2))
def crT (T : Tp) : Except (Nat × Nat) (Dr × Nat) := bn (tre T (0, false)) (fun R σ1 => bs (tkG T 59 σ1) (fun σ2 => stmL T 59 ((0, 0, 0), R, fun _ _ => [], none, none) 1 σ2))
theorem be_ok {α β : Type} {x : Except (Nat × Nat) α} {f : α → Except (Nat × Nat) β} {r : β} (h : be x f = .ok r) : ∃ a, x = .ok a ∧ f a = .ok r := by
  cases x with
  | ok a => exact ⟨a, rfl, h⟩
  | error e => cases h
theorem tkW_ok {T : Tp} {w : List Nat} {σ σ1 : Lx} (h : tkW T w σ = .ok σ1) : isW T σ w = true ∧ σ1 = nx T σ := by
  unfold tkW at h
  by_cases e : isW T σ w = true
  · rw [if_pos e] at h; cases h; exact ⟨e, rfl⟩
  · rw [if_neg e] at h; cases h
theorem nx_le {T : Tp} {σ : Lx} (h : σ.1 ≤ T.2) : (nx T σ).1 ≤ T.2 := tE_le h
theorem tkV_le {T : Tp} {lo hi v : Nat} {σ σ1 : Lx} (h : tkV T lo hi σ = .ok (v, σ1)) (hσ : σ.1 ≤ T.2) : σ1.1 ≤ T.2 ∧ lo ≤ v ∧ v ≤ hi := by
  obtain ⟨a, b, c, d⟩ := tkV_ok h
  rw [b]
  exact ⟨nx_le hσ, c, d⟩
theorem tkW_le {T : Tp} {w : List Nat} {σ σ1 : Lx} (h : tkW T w σ = .ok σ1) (hσ : σ.1 ≤ T.2) : σ1.1 ≤ T.2 := by
  rw [(tkW_ok h).2]; exact nx_le hσ
theorem tkG_le {T : Tp} {c : Nat} {σ σ1 : Lx} (h : tkG T c σ = .ok σ1) (hσ : σ.1 ≤ T.2) : σ1.1 ≤ T.2 := by
  rw [(tkG_ok h).2]; exact nx_le hσ
/-- a name -/
def nmO (w : List Nat) : Prop := lts w ∧ 1 ≤ w.length ∧ w.length ≤ 6
theorem nmT_ok {T : Tp} {σ : Lx} {w : List Nat} (h : nmT T σ = .ok w) : nmO w := by
  unfold nmT at h
  by_cases e1 : tK T σ = 1
  · rw [if_pos e1] at h
    by_cases e2 : tE T σ - tS T σ ≤ 6
    · rw [if_pos e2] at h
      by_cases e3 : own T σ = true
      · rw [if_pos e3] at h; cases h
      · rw [if_neg e3] at h
        cases h
        obtain ⟨k1, k2, -⟩ := tK_word.mp e1
        have hE := tE_word k1 k2
        have hg := tE_gt (T := T) (σ := σ) (by omega)
        refine ⟨lts_wd (by rw [hE]; exact Nat.le_refl _), ?_, ?_⟩
        · rw [wd_len]; omega
        · rw [wd_len]; exact e2
    · rw [if_neg e2] at h; cases h
  · rw [if_neg e1] at h; cases h
theorem newN_ok {T : Tp} {D : Dr} {σ : Lx} {w : List Nat} (h : newN T D σ = .ok w) : nmT T σ = .ok w ∧ nmO w := by
  unfold newN at h
  cases hn : nmT T σ with
  | error e => rw [hn] at h; cases h
  | ok w' =>
    rw [hn] at h
    simp only at h
    by_cases e : hasN D w' 3 0 = true
    · rw [if_pos e] at h; cases h
    · rw [if_neg e] at h
      cases h
      exact ⟨rfl, nmT_ok hn⟩
def okE (np nt nw : Nat) (R : Nat → Nat → Nat) (N : Nat → Nat → List Nat) (se lo : Option (List Nat)) : Prop := (np ≤ 6 ∧ nt ≤ 6 ∧ nw ≤ 5) ∧ (R 0 0 ≤ 9999 ∧ R 0 1 ≤ 99 ∧ R 0 2 ≤ 100 ∧ R 0 3 ≤ 9999 ∧ (1 ≤ R 0 4 ∧ R 0 4 ≤ 100)) ∧ (∀ p, p < np → R 1 p ≤ 999 ∧ R 6 p ≤ 9999) ∧ (∀ t, t < nt → R 2 t ≤ 999 ∧ R 3 t < np ∧ R 4 t ≤ 9) ∧ (∀ w, w < nw → R 5 w ≤ 9 ∧ R 7 w ≤ 9) ∧ (∀ k, k < 3 → ∀ i, i < cnt np nt nw k → nmO (N k i)) ∧ (∀ cs, se = some cs → okF 0 cs) ∧ (∀ cs, lo = some cs → okF 1 cs)
def okD (D : Dr) : Prop := okE D.1.1 D.1.2.1 D.1.2.2 D.2.1 D.2.2.1 D.2.2.2.1 D.2.2.2.2
theorem tre_ok {T : Tp} {σ σ1 : Lx} {R : Nat → Nat → Nat} (hσ : σ.1 ≤ T.2) (h : tre T σ = .ok (R, σ1)) : σ1.1 ≤ T.2 ∧ okD ((0, 0, 0), R, fun _ _ => [], none, none) := by
  unfold tre at h
  obtain ⟨s1, e1, h⟩ := bs_ok h
  obtain ⟨v1, s2, e2, h⟩ := bn_ok h
  obtain ⟨s3, e3, h⟩ := bs_ok h
  obtain ⟨v2, s4, e4, h⟩ := bn_ok h
  obtain ⟨s5, e5, h⟩ := bs_ok h
  obtain ⟨v3, s6, e6, h⟩ := bn_ok h
  cases h
  have l1 := tkW_le e1 hσ
  obtain ⟨l2, a1, a2⟩ := tkV_le e2 l1
  have l3 := tkW_le e3 l2
  obtain ⟨l4, b1, b2⟩ := tkV_le e4 l3
  have l5 := tkW_le e5 l4
  obtain ⟨l6, c1, c2⟩ := tkV_le e6 l5
  refine ⟨l6, ?_⟩
  show okE 0 0 0 (rup (rup (rup R0 0 0 v1) 0 3 v2) 0 1 v3) (fun _ _ => []) none none
  have r4 : R0 0 4 = 50 := rfl
  have r2 : R0 0 2 = 0 := rfl
  refine ⟨⟨(by omega), (by omega), (by omega)⟩, ⟨?_, ?_, ?_, ?_, ?_⟩, fun p hp => absurd hp (by omega), fun p hp => absurd hp (by omega), fun p hp => absurd hp (by omega), fun k hk i hi => ?_, (fun cs h => by cases h), (fun cs h => by cases h)⟩
  · rw [rup_n (by omega), rup_n (by omega), rup_s]; exact a2
  · rw [rup_s]; exact c2
  · rw [rup_n (by omega), rup_n (by omega), rup_n (by omega), r2]; omega
  · rw [rup_n (by omega), rup_s]; exact b2
  · rw [rup_n (by omega), rup_n (by omega), rup_n (by omega), r4]; omega
  · exfalso
    unfold cnt at hi
    split at hi
    · exact absurd hi (by omega)
    · split at hi
      · exact absurd hi (by omega)
      · exact absurd hi (by omega)
theorem okD_p {T : Tp} {D D1 : Dr} {σ σ1 : Lx} (hσ : σ.1 ≤ T.2) (hD : okD D) (h : prvT T D σ = .ok (D1, σ1)) : σ1.1 ≤ T.2 ∧ okD D1 := by
  obtain ⟨⟨np, nt, nw⟩, R, N, se, lo⟩ := D
  unfold prvT at h
  dsimp only at h
  by_cases e : np = 6
  · rw [if_pos e] at h; cases h
  rw [if_neg e] at h
  obtain ⟨w, e1, h⟩ := be_ok h
  obtain ⟨v1, s3, e3, h⟩ := bn_ok h
  obtain ⟨s4, e4, h⟩ := bs_ok h
  obtain ⟨v2, s5, e5, h⟩ := bn_ok h
  cases h
  obtain ⟨l3, a1, a2⟩ := tkV_le e3 (nx_le (nx_le hσ))
  have l4 := tkW_le e4 l3
  obtain ⟨l5, b1, b2⟩ := tkV_le e5 l4
  have hD' : okE np nt nw R N se lo := hD
  obtain ⟨⟨c1, c2, c3⟩, ⟨x0, x1, x2, x3, x4⟩, c5, c6, c7, c8, c9, c10⟩ := hD'
  have hw := (newN_ok e1).2
  refine ⟨l5, ?_⟩
  show okE (np + 1) nt nw (rup (rup R 6 np v1) 1 np v2) (nup N 0 np w) se lo
  refine ⟨⟨(by omega), c2, c3⟩, ⟨?_, ?_, ?_, ?_, ?_⟩, fun p hp => ?_, fun t ht => ?_, fun q hq => ?_, fun k hk i hi => ?_, c9, c10⟩
  · rw [rup_n (by omega), rup_n (by omega)]; exact x0
  · rw [rup_n (by omega), rup_n (by omega)]; exact x1
  · rw [rup_n (by omega), rup_n (by omega)]; exact x2
  · rw [rup_n (by omega), rup_n (by omega)]; exact x3
  · rw [rup_n (by omega), rup_n (by omega)]; exact x4
  · by_cases q : p = np
    · subst q
      rw [rup_s, rup_n (by omega), rup_s]
      exact ⟨b2, a2⟩
    · rw [rup_n (by omega), rup_n (by omega), rup_n (by omega), rup_n (by omega)]
      exact c5 p (by omega)
  · rw [rup_n (by omega), rup_n (by omega), rup_n (by omega), rup_n (by omega), rup_n (by omega), rup_n (by omega)]
    have := c6 t ht
    exact ⟨this.1, by omega, this.2.2⟩
  · rw [rup_n (by omega), rup_n (by omega), rup_n (by omega), rup_n (by omega)]
    exact c7 q hq
  · by_cases q : k = 0 ∧ i = np
    · obtain ⟨rfl, rfl⟩ := q
      rw [nup_s]; exact hw
    · rw [nup_n q]
      refine c8 k hk i ?_
      unfold cnt at hi ⊢
      by_cases k0 : k = 0
      · rw [if_pos k0] at hi ⊢
        omega
      · rw [if_neg k0] at hi ⊢
        exact hi
theorem okD_t {T : Tp} {D D1 : Dr} {σ σ1 : Lx} (hσ : σ.1 ≤ T.2) (hD : okD D) (h : trkT T D σ = .ok (D1, σ1)) : σ1.1 ≤ T.2 ∧ okD D1 := by
  obtain ⟨⟨np, nt, nw⟩, R, N, se, lo⟩ := D
  unfold trkT at h
  dsimp only at h
  by_cases e : nt = 6
  · rw [if_pos e] at h; cases h
  rw [if_neg e] at h
  obtain ⟨w, e1, h⟩ := be_ok h
  obtain ⟨s3, e3, h⟩ := bs_ok h
  obtain ⟨v1, s4, e4, h⟩ := bn_ok h
  obtain ⟨s5, e5, h⟩ := bs_ok h
  obtain ⟨w2, e6, h⟩ := be_ok h
  cases hp : fd (N 0) w2 np 0 with
  | none => rw [hp] at h; cases h
  | some p =>
    rw [hp] at h
    obtain ⟨s7, e7, h⟩ := bs_ok h
    obtain ⟨v3, s8, e8, h⟩ := bn_ok h
    cases h
    have l3 := tkW_le e3 (nx_le (nx_le hσ))
    obtain ⟨l4, a1, a2⟩ := tkV_le e4 l3
    have l5 := tkW_le e5 l4
    have l7 := tkW_le e7 (nx_le l5)
    obtain ⟨l8, b1, b2⟩ := tkV_le e8 l7
    have hD' : okE np nt nw R N se lo := hD
    obtain ⟨⟨c1, c2, c3⟩, ⟨x0, x1, x2, x3, x4⟩, c5, c6, c7, c8, c9, c10⟩ := hD'
    have hw := (newN_ok e1).2
    have hpl := (fd_ok _ _ _ hp).2.1
    refine ⟨l8, ?_⟩
    show okE np (nt + 1) nw (rup (rup (rup R 2 nt v1) 3 nt p) 4 nt v3) (nup N 1 nt w) se lo
    refine ⟨⟨c1, (by omega), c3⟩, ⟨?_, ?_, ?_, ?_, ?_⟩, fun q hq => ?_, fun t ht => ?_, fun q hq => ?_, fun k hk i hi => ?_, c9, c10⟩
    · rw [rup_n (by omega), rup_n (by omega), rup_n (by omega)]; exact x0
    · rw [rup_n (by omega), rup_n (by omega), rup_n (by omega)]; exact x1
    · rw [rup_n (by omega), rup_n (by omega), rup_n (by omega)]; exact x2
    · rw [rup_n (by omega), rup_n (by omega), rup_n (by omega)]; exact x3
    · rw [rup_n (by omega), rup_n (by omega), rup_n (by omega)]; exact x4
    · rw [rup_n (by omega), rup_n (by omega), rup_n (by omega), rup_n (by omega), rup_n (by omega), rup_n (by omega)]
      exact c5 q hq
    · by_cases q : t = nt
      · subst q
        rw [rup_n (by omega), rup_n (by omega), rup_s, rup_n (by omega), rup_s, rup_s]
        exact ⟨a2, by omega, b2⟩
      · rw [rup_n (by omega), rup_n (by omega), rup_n (by omega), rup_n (by omega), rup_n (by omega), rup_n (by omega), rup_n (by omega), rup_n (by omega), rup_n (by omega)]
        exact c6 t (by omega)
    · rw [rup_n (by omega), rup_n (by omega), rup_n (by omega), rup_n (by omega), rup_n (by omega), rup_n (by omega)]
      exact c7 q hq
    · by_cases q : k = 1 ∧ i = nt
      · obtain ⟨rfl, rfl⟩ := q
        rw [nup_s]; exact hw
      · rw [nup_n q]
        refine c8 k hk i ?_
        unfold cnt at hi ⊢
        by_cases k0 : k = 0
        · rw [if_pos k0] at hi ⊢
          exact hi
        · rw [if_neg k0] at hi ⊢
          by_cases k1 : k = 1
          · rw [if_pos k1] at hi ⊢
            omega
          · rw [if_neg k1] at hi ⊢
            exact hi
theorem okD_w {T : Tp} {D D1 : Dr} {σ σ1 : Lx} (hσ : σ.1 ≤ T.2) (hD : okD D) (h : watT T D σ = .ok (D1, σ1)) : σ1.1 ≤ T.2 ∧ okD D1 := by
  obtain ⟨⟨np, nt, nw⟩, R, N, se, lo⟩ := D
  unfold watT at h
  dsimp only at h
  by_cases e : nw = 5
  · rw [if_pos e] at h; cases h
  rw [if_neg e] at h
  obtain ⟨w, e1, h⟩ := be_ok h
  obtain ⟨s3, e3, h⟩ := bs_ok h
  obtain ⟨v1, s4, e4, h⟩ := bn_ok h
  obtain ⟨s5, e5, h⟩ := bs_ok h
  obtain ⟨v2, s6, e6, h⟩ := bn_ok h
  cases h
  have l3 := tkW_le e3 (nx_le (nx_le hσ))
  obtain ⟨l4, a1, a2⟩ := tkV_le e4 l3
  have l5 := tkW_le e5 l4
  obtain ⟨l6, b1, b2⟩ := tkV_le e6 l5
  have hD' : okE np nt nw R N se lo := hD
  obtain ⟨⟨c1, c2, c3⟩, ⟨x0, x1, x2, x3, x4⟩, c5, c6, c7, c8, c9, c10⟩ := hD'
  have hw := (newN_ok e1).2
  refine ⟨l6, ?_⟩
  show okE np nt (nw + 1) (rup (rup R 7 nw v1) 5 nw v2) (nup N 2 nw w) se lo
  refine ⟨⟨c1, c2, (by omega)⟩, ⟨?_, ?_, ?_, ?_, ?_⟩, fun q hq => ?_, fun t ht => ?_, fun q hq => ?_, fun k hk i hi => ?_, c9, c10⟩
  · rw [rup_n (by omega), rup_n (by omega)]; exact x0
  · rw [rup_n (by omega), rup_n (by omega)]; exact x1
  · rw [rup_n (by omega), rup_n (by omega)]; exact x2
  · rw [rup_n (by omega), rup_n (by omega)]; exact x3
  · rw [rup_n (by omega), rup_n (by omega)]; exact x4
  · rw [rup_n (by omega), rup_n (by omega), rup_n (by omega), rup_n (by omega)]
    exact c5 q hq
  · rw [rup_n (by omega), rup_n (by omega), rup_n (by omega), rup_n (by omega), rup_n (by omega), rup_n (by omega)]
    exact c6 t ht
  · by_cases x : q = nw
    · subst x
      rw [rup_s, rup_n (by omega), rup_s]
      exact ⟨b2, a2⟩
    · rw [rup_n (by omega), rup_n (by omega), rup_n (by omega), rup_n (by omega)]
      exact c7 q (by omega)
  · by_cases q : k = 2 ∧ i = nw
    · obtain ⟨rfl, rfl⟩ := q
      rw [nup_s]; exact hw
    · rw [nup_n q]
      refine c8 k hk i ?_
      unfold cnt at hi ⊢
      by_cases k0 : k = 0
      · rw [if_pos k0] at hi ⊢
        exact hi
      · rw [if_neg k0] at hi ⊢
        by_cases k1 : k = 1
        · rw [if_pos k1] at hi ⊢
          exact hi
        · rw [if_neg k1] at hi ⊢
          omega
theorem okD_s {T : Tp} {D D1 : Dr} {σ σ1 : Lx} (hT : T.2 ≤ 1600) (hσ : σ.1 ≤ T.2) (hD : okD D) (h : stmT T D σ = .ok (D1, σ1)) : σ1.1 ≤ T.2 ∧ okD D1 := by
  unfold stmT at h
  by_cases q1 : isW T σ (wL.getD 3 []) = true
  · rw [if_pos q1] at h; exact okD_p hσ hD h
  rw [if_neg q1] at h
  by_cases q2 : isW T σ (wL.getD 5 []) = true
  · rw [if_pos q2] at h; exact okD_t hσ hD h
  rw [if_neg q2] at h
  by_cases q3 : isW T σ (wL.getD 9 []) = true
  · rw [if_pos q3] at h; exact okD_w hσ hD h
  rw [if_neg q3] at h
  obtain ⟨⟨np, nt, nw⟩, R, N, se, lo⟩ := D
  have hD' : okE np nt nw R N se lo := hD
  obtain ⟨c1, ⟨x0, x1, x2, x3, x4⟩, c5, c6, c7, c8, c9, c10⟩ := hD'
  by_cases q4 : isW T σ (wL.getD 12 []) = true
  · rw [if_pos q4] at h
    unfold seeT at h
    dsimp only at h
    by_cases e : se.isSome = true
    · rw [if_pos e] at h; cases h
    rw [if_neg e] at h
    obtain ⟨cs, s1, e1, h⟩ := bn_ok h
    cases h
    refine ⟨(sm_mv (ptD_mv T 0 6) _ _ _ (nx_le hσ) e1).2.2, ?_⟩
    show okE np nt nw R N (some cs) lo
    refine ⟨c1, ⟨x0, x1, x2, x3, x4⟩, c5, c6, c7, c8, fun cs' h' => ?_, c10⟩
    cases h'
    exact okF_sm (by decide) hT (nx_le hσ) e1
  rw [if_neg q4] at h
  by_cases q5 : isW T σ (wL.getD 13 []) = true
  · rw [if_pos q5] at h
    unfold losT at h
    dsimp only at h
    by_cases e : lo.isSome = true
    · rw [if_pos e] at h; cases h
    rw [if_neg e] at h
    obtain ⟨cs, s1, e1, h⟩ := bn_ok h
    cases h
    refine ⟨(sm_mv (ptD_mv T 1 6) _ _ _ (nx_le hσ) e1).2.2, ?_⟩
    show okE np nt nw R N se (some cs)
    refine ⟨c1, ⟨x0, x1, x2, x3, x4⟩, c5, c6, c7, c8, c9, fun cs' h' => ?_⟩
    cases h'
    exact okF_sm (by decide) hT (nx_le hσ) e1
  rw [if_neg q5] at h
  by_cases q6 : isW T σ (wL.getD 14 []) = true
  · rw [if_pos q6] at h
    unfold belT at h
    dsimp only at h
    obtain ⟨v, s1, e1, h⟩ := bn_ok h
    cases h
    obtain ⟨l1, a1, a2⟩ := tkV_le e1 (nx_le hσ)
    refine ⟨l1, ?_⟩
    show okE np nt nw (rup R 0 4 v) N se lo
    refine ⟨c1, ⟨?_, ?_, ?_, ?_, ?_⟩, fun p hp => ?_, fun p hp => ?_, fun p hp => ?_, c8, c9, c10⟩
    · rw [rup_n (by omega)]; exact x0
    · rw [rup_n (by omega)]; exact x1
    · rw [rup_n (by omega)]; exact x2
    · rw [rup_n (by omega)]; exact x3
    · rw [rup_s]; exact ⟨a1, a2⟩
    · rw [rup_n (by omega), rup_n (by omega)]; exact c5 p hp
    · rw [rup_n (by omega), rup_n (by omega), rup_n (by omega)]; exact c6 p hp
    · rw [rup_n (by omega), rup_n (by omega)]; exact c7 p hp
  rw [if_neg q6] at h
  by_cases q7 : isW T σ (wL.getD 15 []) = true
  · rw [if_pos q7] at h
    unfold boyT at h
    dsimp only at h
    obtain ⟨v, s1, e1, h⟩ := bn_ok h
    cases h
    obtain ⟨l1, a1, a2⟩ := tkV_le e1 (nx_le hσ)
    refine ⟨l1, ?_⟩
    show okE np nt nw (rup R 0 2 v) N se lo
    refine ⟨c1, ⟨?_, ?_, ?_, ?_, ?_⟩, fun p hp => ?_, fun p hp => ?_, fun p hp => ?_, c8, c9, c10⟩
    · rw [rup_n (by omega)]; exact x0
    · rw [rup_n (by omega)]; exact x1
    · rw [rup_s]; exact a2
    · rw [rup_n (by omega)]; exact x3
    · rw [rup_n (by omega)]; exact x4
    · rw [rup_n (by omega), rup_n (by omega)]; exact c5 p hp
    · rw [rup_n (by omega), rup_n (by omega), rup_n (by omega)]; exact c6 p hp
    · rw [rup_n (by omega), rup_n (by omega)]; exact c7 p hp
  rw [if_neg q7] at h
  cases h
