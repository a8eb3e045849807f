/-! level 2: sums and tests read, by descent: codes, or the fault and its place -/
abbrev Ps : Type := Except (Nat × Nat) (List Nat × Lx)
def bn {α β : Type} (x : Except (Nat × Nat) (α × Lx)) (f : α → Lx → Except (Nat × Nat) β) : Except (Nat × Nat) β := match x with
  | .ok r => f r.1 r.2
  | .error e => .error e
def bs {β : Type} (x : Except (Nat × Nat) Lx) (f : Lx → Except (Nat × Nat) β) : Except (Nat × Nat) β := match x with
  | .ok r => f r
  | .error e => .error e
def opn (O : Option (Lx → Ps)) (p : Nat) (f : (Lx → Ps) → Ps) : Ps := match O with
  | none => .error (4, p)
  | some P => f P
def prL (T : Tp) (P : Lx → Ps) : Nat → List Nat → Lx → Ps
  | 0, cs, σ => .ok (cs, σ)
  | k + 1, cs, σ => if isG T σ 42 = true then bn (P (nx T σ)) (fun c1 σ1 => prL T P k (cs ++ c1 ++ [3]) σ1) else if isG T σ 47 = true then bn (P (nx T σ)) (fun c1 σ1 => prL T P k (cs ++ c1 ++ [4]) σ1) else .ok (cs, σ)
def prd (T : Tp) (P : Lx → Ps) (σ : Lx) : Ps := bn (P σ) (fun cs σ1 => prL T P T.2 cs σ1)
def smL (T : Tp) (P : Lx → Ps) : Nat → List Nat → Lx → Ps
  | 0, cs, σ => .ok (cs, σ)
  | k + 1, cs, σ => if isG T σ 43 = true then bn (prd T P (nx T σ)) (fun c1 σ1 => smL T P k (cs ++ c1 ++ [1]) σ1) else if isG T σ 45 = true then bn (prd T P (nx T σ)) (fun c1 σ1 => smL T P k (cs ++ c1 ++ [2]) σ1) else .ok (cs, σ)
def sm (T : Tp) (P : Lx → Ps) (σ : Lx) : Ps := bn (prd T P σ) (fun cs σ1 => smL T P T.2 cs σ1)
/-- the words of the parts, by their numbers -/
def pW : List (List Nat) := [[108, 111, 111, 107], [116, 105, 109, 101, 115], [121, 101, 97, 114], [115, 101, 97, 116], [103, 108, 97, 115, 115], [116, 97, 107, 101, 115], [98, 101, 108, 105, 101, 102], [110, 117, 109, 98, 101, 114], [107, 110, 111, 119, 110], [115, 105, 103, 104, 116], [108, 101, 102, 116], [115, 101, 101, 110]]
def wMin : List Nat := [109, 105, 110]
def wMax : List Nat := [109, 97, 120]
def wSeen : List Nat := [115, 101, 101, 110]
/-- which parts there are: 0 sees, 1 loses, 2 a question -/
def al (m k : Nat) : Bool := if m = 0 then decide (k < 5) else decide (k < 3) || decide (k = 5) || (if m = 1 then decide (k = 6) else decide (6 < k))
/-- the part's number -/
def pIx (T : Tp) (m : Nat) (σ : Lx) : Nat → Option Nat
  | 0 => none
  | k + 1 => match pIx T m σ k with
    | some j => some j
    | none => if al m k = true ∧ isW T σ (pW.getD k []) = true then some k else none
def ptB (T : Tp) (m : Nat) (O : Option (Lx → Ps)) (σ : Lx) : Ps :=
  if tK T σ = 2 then bn (tkV T 0 9999 σ) (fun v σ1 => .ok ([1000 + v], σ1))
  else if isG T σ 40 = true then opn O (tS T σ) (fun P => bn (sm T P (nx T σ)) (fun cs σ1 => bs (tkG T 41 σ1) (fun σ2 => .ok (cs, σ2))))
  else if isW T σ wMin = true ∨ isW T σ wMax = true then
    (if isG T (nx T σ) 40 = true then opn O (tS T (nx T σ)) (fun P => bn (sm T P (nx T (nx T σ))) (fun c1 σ2 => bs (tkG T 44 σ2) (fun σ3 => bn (sm T P σ3) (fun c2 σ4 => bs (tkG T 41 σ4) (fun σ5 => .ok (c1 ++ c2 ++ [if isW T σ wMin = true then 5 else 6], σ5))))))
    else .error (1, tS T (nx T σ)))
  else if al m 11 = true ∧ isW T σ wSeen = true then opn O (tS T σ) (fun P => bn (P (nx T σ)) (fun cs σ1 => .ok (cs ++ [60], σ1)))
  else match pIx T m σ 11 with
    | some k => .ok ([40 + k], nx T σ)
    | none => .error (1, tS T σ)
def ptD (T : Tp) (m : Nat) : Nat → Lx → Ps
  | 0 => ptB T m none
  | d + 1 => ptB T m (some (ptD T m d))
def wNot : List Nat := [110, 111, 116]
def wAll : List Nat := [97, 108, 108]
def wAnd : List Nat := [97, 110, 100]
def wOr : List Nat := [111, 114]
def anL (T : Tp) (F : Lx → Ps) : Nat → List Nat → Lx → Ps
  | 0, cs, σ => .ok (cs, σ)
  | k + 1, cs, σ => if isW T σ wAnd = true then bn (F (nx T σ)) (fun c1 σ1 => anL T F k (cs ++ c1 ++ [10]) σ1) else .ok (cs, σ)
def an (T : Tp) (F : Lx → Ps) (σ : Lx) : Ps := bn (F σ) (fun cs σ1 => anL T F T.2 cs σ1)
def orL (T : Tp) (F : Lx → Ps) : Nat → List Nat → Lx → Ps
  | 0, cs, σ => .ok (cs, σ)
  | k + 1, cs, σ => if isW T σ wOr = true then bn (an T F (nx T σ)) (fun c1 σ1 => orL T F k (cs ++ c1 ++ [11]) σ1) else .ok (cs, σ)
def ts (T : Tp) (F : Lx → Ps) (σ : Lx) : Ps := bn (an T F σ) (fun cs σ1 => orL T F T.2 cs σ1)
def cmC (T : Tp) (σ : Lx) : Nat := if isG T σ 60 = true then 7 else if isG T σ 62 = true then 8 else if isG T σ 61 = true then 9 else 0
def cm (T : Tp) (P : Lx → Ps) (σ : Lx) : Ps := bn (sm T P σ) (fun c1 σ1 => if cmC T σ1 = 0 then .error (1, tS T σ1) else bn (sm T P (nx T σ1)) (fun c2 σ2 => .ok (c1 ++ c2 ++ [cmC T σ1], σ2)))
def fcB (T : Tp) (O : Option (Lx → Ps)) (P : Lx → Ps) (σ : Lx) : Ps :=
  if isW T σ wNot = true then opn O (tS T σ) (fun F => bn (F (nx T σ)) (fun cs σ1 => .ok (cs ++ [12], σ1)))
  else if isG T σ 91 = true then opn O (tS T σ) (fun F => bn (ts T F (nx T σ)) (fun cs σ1 => bs (tkG T 93 σ1) (fun σ2 => .ok (cs, σ2))))
  else if isW T σ wAll = true then .ok ([13], nx T σ)
  else cm T P σ
def fcD (T : Tp) (m : Nat) : Nat → Lx → Ps
  | 0 => fcB T none (ptD T m 0)
  | d + 1 => fcB T (some (fcD T m d)) (ptD T m (d + 1))
theorem opn_s {P : Lx → Ps} {p : Nat} {f : (Lx → Ps) → Ps} : opn (some P) p f = f P := rfl
theorem opn_n {p : Nat} {f : (Lx → Ps) → Ps} : opn none p f = .error (4, p) := rfl
/-- a place moves on: where what was read ends, how many codes there are -/
def mv (T : Tp) (P : Lx → Ps) : Prop := ∀ σ cs σ1, σ.1 ≤ T.2 → P σ = .ok (cs, σ1) → σ.1 + cs.length ≤ σ1.1 ∧ σ.1 < σ1.1 ∧ σ1.1 ≤ T.2
theorem bn_ok {α β : Type} {x : Except (Nat × Nat) (α × Lx)} {f : α → Lx → Except (Nat × Nat) β} {r : β} (h : bn x f = .ok r) : ∃ a σ, x = .ok (a, σ) ∧ f a σ = .ok r := by
  cases x with
  | ok v => exact ⟨v.1, v.2, rfl, h⟩
  | error e => cases h
theorem bs_ok {β : Type} {x : Except (Nat × Nat) Lx} {f : Lx → Except (Nat × Nat) β} {r : β} (h : bs x f = .ok r) : ∃ σ, x = .ok σ ∧ f σ = .ok r := by
  cases x with
  | ok v => exact ⟨v, rfl, h⟩
  | error e => cases h
theorem tkG_ok {T : Tp} {c : Nat} {σ σ1 : Lx} (h : tkG T c σ = .ok σ1) : isG T σ c = true ∧ σ1 = nx T σ := by
  unfold tkG at h
  by_cases q : isG T σ c = true
  · rw [if_pos q] at h
    cases h
    exact ⟨q, rfl⟩
  · rw [if_neg q] at h; cases h
theorem tkV_ok {T : Tp} {lo hi v : Nat} {σ σ1 : Lx} (h : tkV T lo hi σ = .ok (v, σ1)) : tK T σ = 2 ∧ σ1 = nx T σ ∧ lo ≤ v ∧ v ≤ hi := by
  unfold tkV at h
  by_cases q : tK T σ = 2
  · rw [if_pos q] at h
    by_cases q1 : tE T σ - tS T σ ≤ 4
    · rw [if_pos q1] at h
      by_cases q2 : lo ≤ dv T (tS T σ) (tE T σ - tS T σ) ∧ dv T (tS T σ) (tE T σ - tS T σ) ≤ hi
      · rw [if_pos q2] at h
        cases h
        exact ⟨q, rfl, q2⟩
      · rw [if_neg q2] at h; cases h
    · rw [if_neg q1] at h; cases h
  · rw [if_neg q] at h; cases h
theorem nx_mv {T : Tp} {σ : Lx} (h : σ.1 ≤ T.2) (hk : tK T σ ≠ 0) : σ.1 < (nx T σ).1 ∧ (nx T σ).1 ≤ T.2 := by
  have h1 := tE_gt hk
  have h2 := tS_ge T σ
  have h3 := tE_le h
  show σ.1 < tE T σ ∧ tE T σ ≤ T.2
  omega
theorem isG_k {T : Tp} {σ : Lx} {c : Nat} (h : isG T σ c = true) : tK T σ ≠ 0 := by rw [(isG_i.mp h).1]; decide
theorem isW_k {T : Tp} {σ : Lx} {w : List Nat} (h : isW T σ w = true) : tK T σ ≠ 0 := by rw [(isW_i.mp h).1]; decide
theorem prL_mv {T : Tp} {P : Lx → Ps} (hP : mv T P) : ∀ (k : Nat) (cs : List Nat) (σ : Lx) (cs1 : List Nat) (σ1 : Lx), σ.1 ≤ T.2 → prL T P k cs σ = .ok (cs1, σ1) → σ.1 + cs1.length ≤ σ1.1 + cs.length ∧ σ.1 ≤ σ1.1 ∧ σ1.1 ≤ T.2
  | 0, cs, σ, cs1, σ1, h, e => by
    rw [prL] at e
    cases e
    exact ⟨Nat.le_refl _, Nat.le_refl _, h⟩
  | k + 1, cs, σ, cs1, σ1, h, e => by
    rw [prL] at e
    have go : ∀ c o, isG T σ c = true → bn (P (nx T σ)) (fun c1 σ1 => prL T P k (cs ++ c1 ++ [o]) σ1) = .ok (cs1, σ1) → σ.1 + cs1.length ≤ σ1.1 + cs.length ∧ σ.1 ≤ σ1.1 ∧ σ1.1 ≤ T.2 := by
      intro c o g e
      obtain ⟨a, σ2, e1, e2⟩ := bn_ok e
      obtain ⟨n1, n2⟩ := nx_mv h (isG_k g)
      obtain ⟨m1, m2, m3⟩ := hP _ _ _ n2 e1
      obtain ⟨r1, r2, r3⟩ := prL_mv hP k _ _ _ _ m3 e2
      simp only [List.length_append, List.length_cons, List.length_nil] at r1
      omega
    by_cases q1 : isG T σ 42 = true
    · rw [if_pos q1] at e; exact go _ _ q1 e
    · rw [if_neg q1] at e
      by_cases q2 : isG T σ 47 = true
      · rw [if_pos q2] at e; exact go _ _ q2 e
      · rw [if_neg q2] at e
        cases e
        exact ⟨Nat.le_refl _, Nat.le_refl _, h⟩
theorem prd_mv {T : Tp} {P : Lx → Ps} (hP : mv T P) : mv T (prd T P) := by
  intro σ cs σ1 h e
  obtain ⟨a, σ2, e1, e2⟩ := bn_ok e
  obtain ⟨m1, m2, m3⟩ := hP _ _ _ h e1
  obtain ⟨r1, r2, r3⟩ := prL_mv hP _ _ _ _ _ m3 e2
  omega
theorem smL_mv {T : Tp} {P : Lx → Ps} (hP : mv T P) : ∀ (k : Nat) (cs : List Nat) (σ : Lx) (cs1 : List Nat) (σ1 : Lx), σ.1 ≤ T.2 → smL T P k cs σ = .ok (cs1, σ1) → σ.1 + cs1.length ≤ σ1.1 + cs.length ∧ σ.1 ≤ σ1.1 ∧ σ1.1 ≤ T.2
  | 0, cs, σ, cs1, σ1, h, e => by
    rw [smL] at e
    cases e
    exact ⟨Nat.le_refl _, Nat.le_refl _, h⟩
  | k + 1, cs, σ, cs1, σ1, h, e => by
    rw [smL] at e
    have go : ∀ c o, isG T σ c = true → bn (prd T P (nx T σ)) (fun c1 σ1 => smL T P k (cs ++ c1 ++ [o]) σ1) = .ok (cs1, σ1) → σ.1 + cs1.length ≤ σ1.1 + cs.length ∧ σ.1 ≤ σ1.1 ∧ σ1.1 ≤ T.2 := by
      intro c o g e
      obtain ⟨a, σ2, e1, e2⟩ := bn_ok e
      obtain ⟨n1, n2⟩ := nx_mv h (isG_k g)
      obtain ⟨m1, m2, m3⟩ := prd_mv hP _ _ _ n2 e1
      obtain ⟨r1, r2, r3⟩ := smL_mv hP k _ _ _ _ m3 e2
      simp only [List.length_append, List.length_cons, List.length_nil] at r1
      omega
    by_cases q1 : isG T σ 43 = true
    · rw [if_pos q1] at e; exact go _ _ q1 e
    · rw [if_neg q1] at e
      by_cases q2 : isG T σ 45 = true
      · rw [if_pos q2] at e; exact go _ _ q2 e
      · rw [if_neg q2] at e
        cases e
        exact ⟨Nat.le_refl _, Nat.le_refl _, h⟩
theorem sm_mv {T : Tp} {P : Lx → Ps} (hP : mv T P) : mv T (sm T P) := by
  intro σ cs σ1 h e
  obtain ⟨a, σ2, e1, e2⟩ := bn_ok e
  obtain ⟨m1, m2, m3⟩ := prd_mv hP _ _ _ h e1
  obtain ⟨r1, r2, r3⟩ := smL_mv hP _ _ _ _ _ m3 e2
  omega
theorem pIx_ok {T : Tp} {m k : Nat} {σ : Lx} : ∀ n, pIx T m σ n = some k → k < n ∧ al m k = true ∧ isW T σ (pW.getD k []) = true
  | 0, h => by cases h
  | n + 1, h => by
    rw [pIx] at h
    cases q : pIx T m σ n with
    | some j =>
      rw [q] at h
      cases h
      obtain ⟨a, b⟩ := pIx_ok n q
      exact ⟨by omega, b⟩
    | none =>
      rw [q] at h
      by_cases c : al m n = true ∧ isW T σ (pW.getD n []) = true
      · rw [show (match (none : Option Nat) with | some j => some j | none => if al m n = true ∧ isW T σ (pW.getD n []) = true then some n else none) = some n from if_pos c] at h
        cases h
        exact ⟨by omega, c⟩
      · rw [show (match (none : Option Nat) with | some j => some j | none => if al m n = true ∧ isW T σ (pW.getD n []) = true then some n else none) = none from if_neg c] at h
        cases h
theorem ptB_mv {T : Tp} {m : Nat} {O : Option (Lx → Ps)} (hO : ∀ P, O = some P → mv T P) : mv T (ptB T m O) := by
  intro σ cs σ1 h e
  unfold ptB at e
  by_cases q1 : tK T σ = 2
  · rw [if_pos q1] at e
    obtain ⟨v, σ2, e1, e2⟩ := bn_ok e
    obtain ⟨-, rfl, -⟩ := tkV_ok e1
    obtain ⟨n1, n2⟩ := nx_mv h (by rw [q1]; decide)
    cases e2
    exact ⟨n1, n1, n2⟩
  rw [if_neg q1] at e
  by_cases q2 : isG T σ 40 = true
  · rw [if_pos q2] at e
    cases O with
    | none => cases e
    | some P =>
      obtain ⟨c1, σ2, e1, e2⟩ := bn_ok (show bn (sm T P (nx T σ)) (fun cs σ1 => bs (tkG T 41 σ1) (fun σ2 => .ok (cs, σ2))) = .ok (cs, σ1) from e)
      obtain ⟨σ3, e3, e4⟩ := bs_ok e2
      obtain ⟨g, rfl⟩ := tkG_ok e3
      obtain ⟨n1, n2⟩ := nx_mv h (isG_k q2)
      obtain ⟨m1, m2, m3⟩ := sm_mv (hO P rfl) _ _ _ n2 e1
      obtain ⟨n3, n4⟩ := nx_mv m3 (isG_k g)
      cases e4
      omega
  rw [if_neg q2] at e
  by_cases q3 : isW T σ wMin = true ∨ isW T σ wMax = true
  · rw [if_pos q3] at e
    have hk : tK T σ ≠ 0 := by rcases q3 with q | q <;> exact isW_k q
    obtain ⟨n1, n2⟩ := nx_mv h hk
    by_cases q4 : isG T (nx T σ) 40 = true
    · rw [if_pos q4] at e
      cases O with
      | none => cases e
      | some P =>
        rw [opn_s] at e
        obtain ⟨c1, σ2, e1, e2⟩ := bn_ok e
        obtain ⟨σ3, e3, e4⟩ := bs_ok e2
        obtain ⟨c2, σ4, e5, e6⟩ := bn_ok e4
        obtain ⟨σ5, e7, e8⟩ := bs_ok e6
        obtain ⟨g, rfl⟩ := tkG_ok e3
        obtain ⟨g2, rfl⟩ := tkG_ok e7
        obtain ⟨n3, n4⟩ := nx_mv n2 (isG_k q4)
        obtain ⟨m1, m2, m3⟩ := sm_mv (hO P rfl) _ _ _ n4 e1
        obtain ⟨n5, n6⟩ := nx_mv m3 (isG_k g)
        obtain ⟨m4, m5, m6⟩ := sm_mv (hO P rfl) _ _ _ n6 e5
        obtain ⟨n7, n8⟩ := nx_mv m6 (isG_k g2)
        cases e8
        simp only [List.length_append, List.length_cons, List.length_nil]
        omega
    · rw [if_neg q4] at e; cases e
  rw [if_neg q3] at e
  by_cases q5 : al m 11 = true ∧ isW T σ wSeen = true
  · rw [if_pos q5] at e
    cases O with
    | none => cases e
    | some P =>
      rw [opn_s] at e
      obtain ⟨c1, σ2, e1, e2⟩ := bn_ok e
      obtain ⟨n1, n2⟩ := nx_mv h (isW_k q5.2)
      obtain ⟨m1, m2, m3⟩ := hO P rfl _ _ _ n2 e1
      cases e2
      simp only [List.length_append, List.length_cons, List.length_nil]
      omega
  rw [if_neg q5] at e
  cases q6 : pIx T m σ 11 with
  | none => rw [q6] at e; cases e
  | some k =>
    rw [q6] at e
    obtain ⟨n1, n2⟩ := nx_mv h (isW_k (pIx_ok 11 q6).2.2)
    cases e
    exact ⟨n1, n1, n2⟩
theorem ptD_mv (T : Tp) (m : Nat) : ∀ d, mv T (ptD T m d)
  | 0 => ptB_mv (fun P h => by cases h)
  | d + 1 => ptB_mv (fun P h => by cases h; exact ptD_mv T m d)
