/-! level 2: alike answers: watch -/
theorem shl5 : ∀ n, n ≤ 6 → ((1 : Int32) <<< (nI n &&& 31)) = nI (2 ^ n) := by
  intro n h
  have : n = 0 ∨ n = 1 ∨ n = 2 ∨ n = 3 ∨ n = 4 ∨ n = 5 ∨ n = 6 := by omega
  rcases this with rfl | rfl | rfl | rfl | rfl | rfl | rfl <;> decide
theorem setNat_or (P Q : Nat → Bool) (n : Nat) : setNat P n ||| setNat Q n = setNat (fun t => P t || Q t) n := by
  apply Nat.eq_of_testBit_eq
  intro i
  rw [Nat.testBit_or, setNat_bit, setNat_bit, setNat_bit]
  cases decide (i < n) <;> cases P i <;> cases Q i <;> rfl
theorem setNat_all (P : Nat → Bool) : ∀ n, (setNat P n = 2 ^ n - 1) ↔ ∀ t, t < n → P t = true := by
  intro n
  constructor
  · intro h t ht
    have := setNat_bit P n t
    rw [h, Nat.testBit_two_pow_sub_one, decide_eq_true ht, Bool.true_and] at this
    exact this.symm
  · intro h
    apply Nat.eq_of_testBit_eq
    intro i
    rw [setNat_bit, Nat.testBit_two_pow_sub_one]
    by_cases e : i < n
    · rw [h i e, Bool.and_true]
    · rw [decide_eq_false e, Bool.false_and]
/-- who sees which trick -/
def wB (g : Nat → Nat → Nat) (x s t : Nat) : Nat → Bool
  | 0 => false
  | w + 1 => wB g x s t w || (s.testBit w && decide (x ≤ g t w))
def cvB (g : Nat → Nat → Nat) (x s nw : Nat) : Nat → Bool
  | 0 => true
  | t + 1 => cvB g x s nw t && wB g x s t nw
theorem cvB_i {g : Nat → Nat → Nat} {x s nw : Nat} : ∀ nt, cvB g x s nw nt = true ↔ ∀ t, t < nt → wB g x s t nw = true
  | 0 => ⟨fun _ t h => absurd h (by omega), fun _ => rfl⟩
  | nt + 1 => by
    rw [cvB, Bool.and_eq_true, cvB_i nt]
    constructor
    · rintro ⟨h1, h2⟩ t ht
      by_cases e : t = nt
      · rw [e]; exact h2
      · exact h1 t (by omega)
    · exact fun h => ⟨fun t ht => h t (by omega), h nt (by omega)⟩
def wS (g : Nat → Nat → Nat) (x nw nt : Nat) : Nat → Option Nat
  | 0 => none
  | s + 1 => match wS g x nw nt s with
    | none => if cvB g x s nw nt = true then some s else none
    | some b => if popc s < popc b ∧ cvB g x s nw nt = true then some s else some b
theorem wS_lt {g : Nat → Nat → Nat} {x nw nt : Nat} : ∀ n b, wS g x nw nt n = some b → b < n
  | 0, b, h => by cases h
  | n + 1, b, h => by
    rw [wS] at h
    cases hq : wS g x nw nt n with
    | none =>
      rw [hq] at h
      by_cases e : cvB g x n nw nt = true
      · simp only [if_pos e] at h
        cases h; omega
      · simp only [if_neg e] at h
        cases h
    | some b0 =>
      rw [hq] at h
      have := wS_lt n b0 hq
      by_cases e : popc n < popc b0 ∧ cvB g x n nw nt = true
      · simp only [if_pos e] at h
        cases h; omega
      · simp only [if_neg e] at h
        cases h; omega
def oW : Option Nat → Int32
  | none => -1
  | some b => nI b
/-- the class: who sees what -/
theorem h_sba {S : Hp} {c nw nt x s : Nat} {g : Nat → Nat → Nat} (h5 : S.2.2 50 0 = c) (hc : c = 100 ∨ c = 150) (hw : S.1 (c + 1) 2 = nI nw) (hnw : nw ≤ 5) (hnt : nt ≤ 6) (hs : s < 64) (h54 : ∀ w, w < nw → S.1 54 w = nI (setNat (fun t => decide (x ≤ g t w)) nt)) : ∀ (d i K : Nat), i + d = nw → d < K → f_X8_seenByAny_4 K (nI s) (nI (setNat (fun t => wB g x s t i) nt)) (nI i) S = some (nI (setNat (fun t => wB g x s t nw) nt), S)
  | 0, i, K, hi, hK => by
    obtain ⟨K, rfl⟩ : ∃ q, K = q + 1 := ⟨K - 1, by omega⟩
    rw [f_X8_seenByAny_4, ldP_n h5 (crH hc), ldI_L 2 (by decide) (by decide), hw, if_pos (nI_le (by omega) (by omega)), show i = nw by omega]
  | d + 1, i, K, hi, hK => by
    obtain ⟨K, rfl⟩ : ∃ q, K = q + 1 := ⟨K - 1, by omega⟩
    have ih := h_sba h5 hc hw hnw hnt hs h54 d (i + 1) K (by omega) (by omega)
    have h35 : ∀ a, f_X8_seenByAny_35 (f_X8_seenByAny_4 K) (nI s) a (nI i) S = f_X8_seenByAny_4 K (nI s) a (nI (i + 1)) S := fun a => by
      unfold f_X8_seenByAny_35
      rw [le1_e, nI_1]
    rw [f_X8_seenByAny_4, ldP_n h5 (crH hc), ldI_L 2 (by decide) (by decide), hw, if_neg (nI_ge (by omega) (by omega)), bit_at s hs i (by omega), ldI_n (by omega) (by decide), h54 i (by omega), le1_e, h35, h35, orN, setNat_or]
    by_cases e : s.testBit i = true
    · rw [if_pos e, if_pos rfl, ← ih]
      have : (fun t => wB g x s t i || decide (x ≤ g t i)) = fun t => wB g x s t (i + 1) := funext (fun t => by rw [wB, e, Bool.true_and])
      rw [this]
    · rw [if_neg e, if_neg (show ¬ (0 : Int32) = 1 by decide), ← ih]
      have : (fun t => wB g x s t i) = fun t => wB g x s t (i + 1) := funext (fun t => by rw [wB, Bool.eq_false_iff.mpr e, Bool.false_and, Bool.or_false])
      rw [← this]
theorem h_f100 {S : Hp} {a c nw nt x : Nat} {g : Nat → Nat → Nat} (h5 : S.2.2 50 0 = c) (hc : c = 100 ∨ c = 150) (hw : S.1 (c + 1) 2 = nI nw) (hnw : nw ≤ 5) (hnt : nt ≤ 6) (h54 : ∀ w, w < nw → S.1 54 w = nI (setNat (fun t => decide (x ≤ g t w)) nt)) : ∀ (d s K : Nat), s + d = 2 ^ nw → d < K → f_X8_fewestWatchers_100 a K (nI nw) (nI nt) (oW (wS g x nw nt s)) (nI s) S = some (oW (wS g x nw nt (2 ^ nw)), S)
  | 0, s, K, hi, hK => by
    have hp : 2 ^ nw ≤ 2 ^ 5 := Nat.pow_le_pow_right (by decide) hnw
    obtain ⟨K, rfl⟩ : ∃ q, K = q + 1 := ⟨K - 1, by omega⟩
    rw [f_X8_fewestWatchers_100, shl5 nw (by omega), if_pos (nI_le (by omega) (by omega)), show s = 2 ^ nw by omega]
  | d + 1, s, K, hi, hK => by
    have hp : 2 ^ nw ≤ 2 ^ 5 := Nat.pow_le_pow_right (by decide) hnw
    have hpt : 2 ^ nt ≤ 2 ^ 6 := Nat.pow_le_pow_right (by decide) hnt
    obtain ⟨K, rfl⟩ : ∃ q, K = q + 1 := ⟨K - 1, by omega⟩
    have ih := h_f100 (a := a) h5 hc hw hnw hnt h54 d (s + 1) K (by omega) (by omega)
    have hs64 := setNat_64 (fun t => wB g x s t nw) hnt
    have sba := h_sba (s := s) h5 hc hw hnw hnt (by omega) h54 nw 0 5000 (by omega) (by omega)
    have e0 : setNat (fun t => wB g x s t 0) nt = 0 := (setNat_x (m := 0) nt (Nat.zero_le _) (fun i _ _ => rfl))
    rw [e0] at sba
    have h158 : ∀ o, f_X8_fewestWatchers_158 (f_X8_fewestWatchers_100 a K) a (nI nw) (nI nt) o (nI s) S = f_X8_fewestWatchers_100 a K (nI nw) (nI nt) o (nI (s + 1)) S := fun o => by
      unfold f_X8_fewestWatchers_158
      rw [le1_e, nI_1]
    have eb : (nI (setNat (fun t => wB g x s t nw) nt) = ((1 : Int32) <<< (nI nt &&& 31)) - (1 : Int32)) ↔ cvB g x s nw nt = true := by
      rw [shl_nt nt hnt, nI_eq (by omega) (by omega), setNat_all, cvB_i]
    have h127 : ∀ o, f_X8_fewestWatchers_127 (f_X8_fewestWatchers_100 a K) a (nI nw) (nI nt) o (nI s) S = if cvB g x s nw nt = true then f_X8_fewestWatchers_100 a K (nI nw) (nI nt) (nI s) (nI (s + 1)) S else f_X8_fewestWatchers_100 a K (nI nw) (nI nt) o (nI (s + 1)) S := fun o => by
      unfold f_X8_fewestWatchers_127 f_X8_fewestWatchers_132
      rw [if_neg ne1, show f_X8_seenByAny (nI s) S = _ from sba, ob2_s, h158, h158]
      by_cases e : cvB g x s nw nt = true
      · rw [if_pos (eb.mpr e), if_pos e]
      · rw [if_neg (fun q => e (eb.mp q)), if_neg e]
    rw [f_X8_fewestWatchers_100, shl5 nw (by omega), if_neg (nI_ge (by omega) (by omega)), ← ih, wS]
    cases hq : wS g x nw nt s with
    | none =>
      show (if (-1 : Int32) = -1 then _ else _) = _
      rw [if_pos rfl, h127]
      by_cases e : cvB g x s nw nt = true
      · rw [if_pos e]; simp only [if_pos e]; rfl
      · rw [if_neg e]; simp only [if_neg e]
    | some b =>
      have hb := wS_lt s b hq
      have p1 : popc s < 2 ^ 31 := Nat.lt_of_le_of_lt (List.countP_le_length) (by decide)
      have p2 : popc b < 2 ^ 31 := Nat.lt_of_le_of_lt (List.countP_le_length) (by decide)
      show (if nI b = -1 then _ else ob2 (f_J6_bitCount_0f7a4 (nI s) S) (fun r1 S1 => ob2 (f_J6_bitCount_0f7a4 (nI b) S1) (fun r2 S2 => if r2 ≤ r1 then f_X8_fewestWatchers_132 (f_X8_fewestWatchers_100 a K) a (nI nw) (nI nt) (nI b) (nI s) (0 : Int32) S2 else f_X8_fewestWatchers_127 (f_X8_fewestWatchers_100 a K) a (nI nw) (nI nt) (nI b) (nI s) S2))) = _
      rw [if_neg (nI_nm (by omega)), h_bc (by omega), ob2_s, h_bc (by omega), ob2_s, h127]
      unfold f_X8_fewestWatchers_132
      rw [if_pos rfl, h158]
      by_cases e : popc s < popc b
      · rw [if_neg (nI_ge e p2)]
        by_cases e2 : cvB g x s nw nt = true
        · rw [if_pos e2]; simp only [if_pos (show popc s < popc b ∧ cvB g x s nw nt = true from ⟨e, e2⟩)]; rfl
        · rw [if_neg e2]; simp only [if_neg (show ¬ (popc s < popc b ∧ cvB g x s nw nt = true) from fun q => e2 q.2)]; rfl
      · rw [if_pos (nI_le (by omega) p1)]
        simp only [if_neg (show ¬ (popc s < popc b ∧ cvB g x s nw nt = true) from fun q => e q.1)]; rfl
