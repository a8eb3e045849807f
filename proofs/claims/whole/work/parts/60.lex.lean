/-! level 2: texts: bytes, words, numbers, signs -/
abbrev Tp : Type := (Nat → Nat) × Nat
abbrev Lx : Type := Nat × Bool
def blk (x : Nat) : Bool := decide (x = 10) || decide (x = 32)
def ltr (x : Nat) : Bool := decide (97 ≤ x) && decide (x ≤ 122)
def dgt (x : Nat) : Bool := decide (48 ≤ x) && decide (x ≤ 57)
theorem blk_i {x : Nat} : blk x = true ↔ x = 10 ∨ x = 32 := by unfold blk; simp
theorem ltr_i {x : Nat} : ltr x = true ↔ 97 ≤ x ∧ x ≤ 122 := by unfold ltr; simp
theorem dgt_i {x : Nat} : dgt x = true ↔ 48 ≤ x ∧ x ≤ 57 := by unfold dgt; simp
def runF (p : Nat → Bool) (T : Tp) : Nat → Nat → Nat
  | 0, e => e
  | k + 1, e => if e < T.2 ∧ p (T.1 e) = true then runF p T k (e + 1) else e
/-- the end of the run of such bytes from a place on -/
def rn (p : Nat → Bool) (T : Tp) (e : Nat) : Nat := runF p T (T.2 - e) e
theorem rn_s {p : Nat → Bool} {T : Tp} {e : Nat} (h : e < T.2) (hp : p (T.1 e) = true) : rn p T e = rn p T (e + 1) := by
  unfold rn
  rw [show T.2 - e = (T.2 - (e + 1)) + 1 by omega, runF, if_pos ⟨h, hp⟩]
theorem rn_n {p : Nat → Bool} {T : Tp} {e : Nat} (h : ¬ (e < T.2 ∧ p (T.1 e) = true)) : rn p T e = e := by
  unfold rn
  generalize T.2 - e = k
  cases k with
  | zero => rfl
  | succ k => rw [runF, if_neg h]
theorem runF_ok (p : Nat → Bool) (T : Tp) : ∀ k e, T.2 - e ≤ k → e ≤ runF p T k e ∧ (e ≤ T.2 → runF p T k e ≤ T.2) ∧ (∀ j, e ≤ j → j < runF p T k e → j < T.2 ∧ p (T.1 j) = true) ∧ ¬ (runF p T k e < T.2 ∧ p (T.1 (runF p T k e)) = true)
  | 0, e, h => ⟨Nat.le_refl _, fun q => q, fun j h1 h2 => absurd h2 (by rw [runF]; omega), fun q => by rw [runF] at q; omega⟩
  | k + 1, e, h => by
    rw [runF]
    by_cases c : e < T.2 ∧ p (T.1 e) = true
    · rw [if_pos c]
      obtain ⟨h1, h2, h3, h4⟩ := runF_ok p T k (e + 1) (by omega)
      refine ⟨by omega, fun _ => h2 (by omega), fun j j1 j2 => ?_, h4⟩
      by_cases q : j = e
      · subst q; exact c
      · exact h3 j (by omega) j2
    · rw [if_neg c]
      exact ⟨Nat.le_refl _, fun q => q, fun j h1 h2 => absurd h2 (by omega), c⟩
theorem rn_ge (p : Nat → Bool) (T : Tp) (e : Nat) : e ≤ rn p T e := (runF_ok p T _ e (Nat.le_refl _)).1
theorem rn_le (p : Nat → Bool) (T : Tp) {e : Nat} (h : e ≤ T.2) : rn p T e ≤ T.2 := (runF_ok p T _ e (Nat.le_refl _)).2.1 h
theorem rn_in (p : Nat → Bool) (T : Tp) {e j : Nat} (h1 : e ≤ j) (h2 : j < rn p T e) : j < T.2 ∧ p (T.1 j) = true := (runF_ok p T _ e (Nat.le_refl _)).2.2.1 j h1 h2
theorem rn_no (p : Nat → Bool) (T : Tp) (e : Nat) : ¬ (rn p T e < T.2 ∧ p (T.1 (rn p T e)) = true) := (runF_ok p T _ e (Nat.le_refl _)).2.2.2
theorem rn_mid {p : Nat → Bool} {T : Tp} {e : Nat} : ∀ (d a : Nat), a = e + d → a ≤ rn p T e → rn p T a = rn p T e
  | 0, a, h, _ => by rw [show a = e by omega]
  | d + 1, a, h, h2 => by
    have ih := rn_mid (p := p) (T := T) (e := e) d (e + d) rfl (by omega)
    have hi := rn_in p T (e := e) (j := e + d) (by omega) (by omega)
    rw [rn_s hi.1 hi.2] at ih
    rw [show a = e + d + 1 by omega]
    exact ih
theorem rn_md {p : Nat → Bool} {T : Tp} {e a : Nat} (h1 : e ≤ a) (h2 : a ≤ rn p T e) : rn p T a = rn p T e := rn_mid (a - e) a (by omega) h2
/-- where the next word, number or sign begins, what it is (0 none, 1 a word, 2 a number, 3 a sign, 4 one that no blank parts), where it ends -/
def tS (T : Tp) (σ : Lx) : Nat := rn blk T σ.1
def tK (T : Tp) (σ : Lx) : Nat := if T.2 ≤ tS T σ then 0 else if ltr (T.1 (tS T σ)) = true then (if σ.2 = true ∧ tS T σ = σ.1 then 4 else 1) else if dgt (T.1 (tS T σ)) = true then (if σ.2 = true ∧ tS T σ = σ.1 then 4 else 2) else 3
def tE (T : Tp) (σ : Lx) : Nat := if T.2 ≤ tS T σ then tS T σ else if ltr (T.1 (tS T σ)) = true then rn ltr T (tS T σ) else if dgt (T.1 (tS T σ)) = true then rn dgt T (tS T σ) else tS T σ + 1
def nx (T : Tp) (σ : Lx) : Lx := (tE T σ, decide (tK T σ = 1 ∨ tK T σ = 2))
theorem tS_ge (T : Tp) (σ : Lx) : σ.1 ≤ tS T σ := rn_ge _ _ _
theorem tS_le {T : Tp} {σ : Lx} (h : σ.1 ≤ T.2) : tS T σ ≤ T.2 := rn_le _ _ h
theorem tE_ge (T : Tp) (σ : Lx) : tS T σ ≤ tE T σ := by
  unfold tE
  have h1 := rn_ge ltr T (tS T σ)
  have h2 := rn_ge dgt T (tS T σ)
  repeat' split
  all_goals omega
theorem tE_le {T : Tp} {σ : Lx} (h : σ.1 ≤ T.2) : tE T σ ≤ T.2 := by
  have h0 := tS_le h
  have h1 := rn_le ltr T h0
  have h2 := rn_le dgt T h0
  unfold tE
  repeat' split
  all_goals omega
theorem tE_gt {T : Tp} {σ : Lx} (h : tK T σ ≠ 0) : tS T σ < tE T σ ∧ tS T σ < T.2 := by
  unfold tK at h
  by_cases q : T.2 ≤ tS T σ
  · rw [if_pos q] at h; exact absurd rfl h
  · refine ⟨?_, by omega⟩
    unfold tE
    rw [if_neg q]
    by_cases q1 : ltr (T.1 (tS T σ)) = true
    · rw [if_pos q1, rn_s (by omega) q1]
      exact rn_ge _ _ _
    · rw [if_neg q1]
      by_cases q2 : dgt (T.1 (tS T σ)) = true
      · rw [if_pos q2, rn_s (by omega) q2]
        exact rn_ge _ _ _
      · rw [if_neg q2]; omega
/-- a word's letters -/
def wd (T : Tp) (s t : Nat) : List Nat := (List.range (t - s)).map (fun i => T.1 (s + i))
theorem wd_len (T : Tp) (s t : Nat) : (wd T s t).length = t - s := by unfold wd; simp
theorem wd_at {T : Tp} {s t i : Nat} (h : i < t - s) : (wd T s t).getD i 0 = T.1 (s + i) := by
  unfold wd
  rw [List.getD_eq_getElem?_getD, List.getElem?_map, List.getElem?_range h]
  rfl
theorem wd_iff {T : Tp} {s t : Nat} {w : List Nat} : wd T s t = w ↔ t - s = w.length ∧ ∀ i, i < w.length → T.1 (s + i) = w.getD i 0 := by
  constructor
  · rintro rfl
    rw [wd_len]
    exact ⟨rfl, fun i hi => (wd_at hi).symm⟩
  · rintro ⟨h1, h2⟩
    apply List.ext_getElem?
    intro i
    by_cases hi : i < w.length
    · have e := wd_at (T := T) (s := s) (t := t) (i := i) (by omega)
      rw [h2 i hi, List.getD_eq_getElem?_getD, List.getD_eq_getElem?_getD, List.getElem?_eq_getElem hi, List.getElem?_eq_getElem (by rw [wd_len]; omega)] at e
      rw [List.getElem?_eq_getElem hi, List.getElem?_eq_getElem (by rw [wd_len]; omega)]
      simp only [Option.getD_some] at e
      rw [e]
    · rw [List.getElem?_eq_none (by rw [wd_len]; omega), List.getElem?_eq_none (by omega)]
def isW (T : Tp) (σ : Lx) (w : List Nat) : Bool := decide (tK T σ = 1) && decide (wd T (tS T σ) (tE T σ) = w)
def isG (T : Tp) (σ : Lx) (c : Nat) : Bool := decide (tK T σ = 3) && decide (T.1 (tS T σ) = c)
theorem isW_i {T : Tp} {σ : Lx} {w : List Nat} : isW T σ w = true ↔ tK T σ = 1 ∧ wd T (tS T σ) (tE T σ) = w := by unfold isW; simp
theorem isG_i {T : Tp} {σ : Lx} {c : Nat} : isG T σ c = true ↔ tK T σ = 3 ∧ T.1 (tS T σ) = c := by unfold isG; simp
theorem tK_sign {T : Tp} {σ : Lx} : tK T σ = 3 ↔ tS T σ < T.2 ∧ ltr (T.1 (tS T σ)) = false ∧ dgt (T.1 (tS T σ)) = false := by
  unfold tK
  by_cases q : T.2 ≤ tS T σ
  · rw [if_pos q]; constructor
    · intro h; cases h
    · intro h; omega
  · rw [if_neg q]
    by_cases q1 : ltr (T.1 (tS T σ)) = true
    · rw [if_pos q1]
      constructor
      · intro h; split at h <;> cases h
      · intro h; rw [h.2.1] at q1; cases q1
    · rw [if_neg q1]
      by_cases q2 : dgt (T.1 (tS T σ)) = true
      · rw [if_pos q2]
        constructor
        · intro h; split at h <;> cases h
        · intro h; rw [h.2.2] at q2; cases q2
      · rw [if_neg q2]
        simp at q1 q2
        exact ⟨fun _ => ⟨by omega, q1, q2⟩, fun _ => rfl⟩
/-- a sign that is neither letter nor digit, by its byte -/
theorem isG_b {T : Tp} {σ : Lx} {c : Nat} (hc : ltr c = false ∧ dgt c = false) : isG T σ c = true ↔ tS T σ < T.2 ∧ T.1 (tS T σ) = c := by
  rw [isG_i, tK_sign]
  constructor
  · rintro ⟨⟨h, -⟩, e⟩; exact ⟨h, e⟩
  · rintro ⟨h, e⟩; rw [e]; exact ⟨⟨h, hc⟩, rfl⟩
theorem tK_word {T : Tp} {σ : Lx} : tK T σ = 1 ↔ tS T σ < T.2 ∧ ltr (T.1 (tS T σ)) = true ∧ ¬ (σ.2 = true ∧ tS T σ = σ.1) := by
  unfold tK
  by_cases q : T.2 ≤ tS T σ
  · rw [if_pos q]; constructor
    · intro h; cases h
    · intro h; omega
  · rw [if_neg q]
    by_cases q1 : ltr (T.1 (tS T σ)) = true
    · rw [if_pos q1]
      by_cases q3 : σ.2 = true ∧ tS T σ = σ.1
      · rw [if_pos q3]
        exact ⟨fun h => (by cases h), fun h => absurd q3 h.2.2⟩
      · rw [if_neg q3]
        exact ⟨fun _ => ⟨by omega, q1, q3⟩, fun _ => rfl⟩
    · rw [if_neg q1]
      constructor
      · intro h
        by_cases q2 : dgt (T.1 (tS T σ)) = true
        · rw [if_pos q2] at h; split at h <;> cases h
        · rw [if_neg q2] at h; cases h
      · intro h; exact absurd h.2.1 q1
theorem ltr_dgt {x : Nat} (h : dgt x = true) : ltr x = false := by
  rw [dgt_i] at h
  unfold ltr
  simp
  omega
theorem tK_num {T : Tp} {σ : Lx} : tK T σ = 2 ↔ tS T σ < T.2 ∧ dgt (T.1 (tS T σ)) = true ∧ ¬ (σ.2 = true ∧ tS T σ = σ.1) := by
  unfold tK
  by_cases q : T.2 ≤ tS T σ
  · rw [if_pos q]; constructor
    · intro h; cases h
    · intro h; omega
  · rw [if_neg q]
    by_cases q1 : ltr (T.1 (tS T σ)) = true
    · rw [if_pos q1]
      constructor
      · intro h; split at h <;> cases h
      · intro h; rw [ltr_dgt h.2.1] at q1; cases q1
    · rw [if_neg q1]
      by_cases q2 : dgt (T.1 (tS T σ)) = true
      · rw [if_pos q2]
        by_cases q3 : σ.2 = true ∧ tS T σ = σ.1
        · rw [if_pos q3]
          exact ⟨fun h => (by cases h), fun h => absurd q3 h.2.2⟩
        · rw [if_neg q3]
          exact ⟨fun _ => ⟨by omega, q2, q3⟩, fun _ => rfl⟩
      · rw [if_neg q2]
        exact ⟨fun h => (by cases h), fun h => absurd h.2.1 q2⟩
theorem tE_word {T : Tp} {σ : Lx} (h : tS T σ < T.2) (h1 : ltr (T.1 (tS T σ)) = true) : tE T σ = rn ltr T (tS T σ) := by
  unfold tE
  rw [if_neg (by omega), if_pos h1]
theorem tE_num {T : Tp} {σ : Lx} (h : tS T σ < T.2) (h1 : dgt (T.1 (tS T σ)) = true) : tE T σ = rn dgt T (tS T σ) := by
  unfold tE
  rw [if_neg (by omega), if_neg (by rw [ltr_dgt h1]; decide), if_pos h1]
theorem tE_sign {T : Tp} {σ : Lx} (h : tK T σ = 3) : tE T σ = tS T σ + 1 := by
  obtain ⟨h1, h2, h3⟩ := tK_sign.mp h
  unfold tE
  rw [if_neg (by omega), if_neg (by rw [h2]; decide), if_neg (by rw [h3]; decide)]
/-- digits read from a place on -/
def dv (T : Tp) (s : Nat) : Nat → Nat
  | 0 => 0
  | k + 1 => dv T s k * 10 + (T.1 (s + k) - 48)
/-- a number asked for -/
def tkV (T : Tp) (lo hi : Nat) (σ : Lx) : Except (Nat × Nat) (Nat × Lx) :=
  if tK T σ = 2 then (if tE T σ - tS T σ ≤ 4 then (if lo ≤ dv T (tS T σ) (tE T σ - tS T σ) ∧ dv T (tS T σ) (tE T σ - tS T σ) ≤ hi then .ok (dv T (tS T σ) (tE T σ - tS T σ), nx T σ) else .error (2, tS T σ)) else .error (1, tS T σ + 4)) else .error (1, tS T σ)
def tkW (T : Tp) (w : List Nat) (σ : Lx) : Except (Nat × Nat) Lx := if isW T σ w = true then .ok (nx T σ) else .error (1, tS T σ)
def tkG (T : Tp) (c : Nat) (σ : Lx) : Except (Nat × Nat) Lx := if isG T σ c = true then .ok (nx T σ) else .error (1, tS T σ)
