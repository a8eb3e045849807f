/-! level 2: sets of tricks as bits; what a show takes -/
def setNat (P : Nat → Bool) : Nat → Nat
  | 0 => 0
  | n + 1 => setNat P n + (if P n then 2 ^ n else 0)
theorem setNat_lt (P : Nat → Bool) : ∀ n, setNat P n < 2 ^ n
  | 0 => by simp [setNat]
  | n + 1 => by
    have h := setNat_lt P n
    rw [setNat, Nat.pow_succ]
    by_cases hp : P n = true
    · rw [if_pos hp]; omega
    · rw [if_neg hp]; omega
theorem or_bit : ∀ n, n < 6 → ∀ a, a < 2 ^ n → nI a ||| ((1 : Int32) <<< (nI n &&& 31)) = nI (a + 2 ^ n) := by decide +kernel
theorem setN_nat (P : Nat → Bool) : ∀ n, n ≤ 6 → setN P n = nI (setNat P n)
  | 0, _ => rfl
  | n + 1, h => by
    rw [setN, setNat, setN_nat P n (by omega)]
    by_cases hp : P n = true
    · rw [if_pos hp, if_pos hp, or_bit n (by omega) _ (setNat_lt P n)]
    · rw [if_neg hp, if_neg hp, Nat.add_zero]
theorem bit_at : ∀ s, s < 64 → ∀ t, t < 6 → ((nI s >>> (nI t &&& 31)) &&& (1 : Int32)) = (if s.testBit t then 1 else 0) := by decide +kernel
theorem shl_nt : ∀ n, n ≤ 6 → ((1 : Int32) <<< (nI n &&& 31)) - (1 : Int32) = nI (2 ^ n - 1) := by
  intro n h
  have k : ∀ n, n < 7 → ((1 : Int32) <<< (nI n &&& 31)) - (1 : Int32) = nI (2 ^ n - 1) := by decide +kernel
  exact k n (by omega)
theorem and_nat : ∀ a, a < 64 → ∀ b, b < 64 → nI a &&& nI b = nI (a &&& b) := by decide +kernel
theorem m_all {S : Hp} {nt : Nat} (hnt : nt ≤ 6) (hn : S.1 41 4 = nI nt) : f_X12_allTricks S = some (nI (2 ^ nt - 1), S) := by
  unfold f_X12_allTricks
  rw [m_tm, ob2_s, hn, shl_nt nt hnt]
/-- how many bits -/
def popc (s : Nat) : Nat := (List.range 6).countP (fun t => s.testBit t)
def bitsG : Nat → Int32 → Int32 → Option Int32
  | 0, _, _ => none
  | k + 1, x1, x2 => if x2 = 0 then some x1 else bitsG k (x1 + (1 : Int32)) (x2 &&& (x2 - (1 : Int32)))
theorem bitsG_eq (S : Hp) : ∀ (k : Nat) (x1 x2 : Int32), f_X12_bits_4 k x1 x2 S = (bitsG k x1 x2).map (fun r => (r, S))
  | 0, _, _ => rfl
  | k + 1, x1, x2 => by
    rw [f_X12_bits_4, bitsG]
    by_cases h : x2 = 0
    · rw [if_pos h, if_pos h]; rfl
    · rw [if_neg h, if_neg h, le1_e, le1_e, bitsG_eq S k]
theorem bitsG_64 : ∀ s, s < 64 → bitsG 5000 0 (nI s) = some (nI (popc s)) := by decide +kernel
theorem m_bits {S : Hp} {s : Nat} (h : s < 64) : f_X12_bits (nI s) S = some (nI (popc s), S) := by
  unfold f_X12_bits
  rw [bitsG_eq, bitsG_64 s h]
  rfl
def mn (a b : Int32) : Int32 := if a ≤ b then a else b
/-- what a show takes, by the tricks' numbers: the stores left, and what appears -/
def tkN (tk : Nat → Int32) (fr : Nat → Nat) (s : Nat) (row : Nat → Int32) : Nat → (Nat → Int32) × Int32
  | 0 => (row, 0)
  | t + 1 => if s.testBit t then (upd (tkN tk fr s row t).1 (fr t) ((tkN tk fr s row t).1 (fr t) - mn (tk t) ((tkN tk fr s row t).1 (fr t))), (tkN tk fr s row t).2 + mn (tk t) ((tkN tk fr s row t).1 (fr t))) else tkN tk fr s row t
theorem m_ab2 {S0 : Hp} {nt s : Nat} {fr : Nat → Nat} {row : Nat → Int32} (hnt : nt ≤ 6) (hs : s < 64) (hn : S0.1 41 4 = nI nt) (hfr : ∀ t, t < nt → S0.1 45 (19 + 3 * t) = nI (fr t) ∧ fr t < 6) :
    ∀ (d i k : Nat), i + d = nt → d < k → f_X12_appearsBy_34 k (nI s) (tkN (fun t => S0.1 45 (18 + 3 * t)) fr s row i).2 (nI i) (ho_sA S0 60 (tkN (fun t => S0.1 45 (18 + 3 * t)) fr s row i).1) = some ((tkN (fun t => S0.1 45 (18 + 3 * t)) fr s row nt).2, ho_sA S0 60 (tkN (fun t => S0.1 45 (18 + 3 * t)) fr s row nt).1) := by
  intro d
  induction d with
  | zero =>
    intro i k hi hk
    obtain ⟨k, rfl⟩ : ∃ q, k = q + 1 := ⟨k - 1, by omega⟩
    rw [f_X12_appearsBy_34, m_tm, ob2_s, sA_ne _ _ (by decide), hn, if_pos (nI_le (by omega) (by omega)), show i = nt by omega]
  | succ d ih =>
    intro i k hi hk
    obtain ⟨k, rfl⟩ : ∃ q, k = q + 1 := ⟨k - 1, by omega⟩
    have hI := ih (i + 1) k (by omega) (by omega)
    rw [tkN] at hI
    generalize hT : tkN (fun t => S0.1 45 (18 + 3 * t)) fr s row i = T at hI ⊢
    obtain ⟨hf1, hf2⟩ := hfr i (by omega)
    rw [f_X12_appearsBy_34, m_tm, ob2_s, sA_ne _ _ (by decide), hn, if_neg (nI_ge (by omega) (by omega)), bit_at s hs i (by omega)]
    have h127 : ∀ x2 Sx, f_X12_appearsBy_127 (f_X12_appearsBy_34 k) (nI s) x2 (nI i) Sx = f_X12_appearsBy_34 k (nI s) x2 (nI (i + 1)) Sx := by
      intro x2 Sx
      unfold f_X12_appearsBy_127
      rw [le1_e, nI_1]
    by_cases hb : s.testBit i = true
    · rw [if_pos hb, if_neg (by decide)]
      rw [if_pos hb] at hI
      simp only [lit_nI 19, lit_nI 18, lit_nI 3, nI_add, pk_mul]
      rw [ldI_n (by omega) (by decide), sA_ne _ _ (by decide), hf1, ldI_n (by omega) (by decide), sA_ne _ _ (by decide), ldI_n hf2 (by decide), sA_at]
      have h108 : ∀ z, f_X12_appearsBy_108 (f_X12_appearsBy_34 k) (nI s) T.2 (nI i) (nI (fr i)) z (ho_sA S0 60 T.1) = f_X12_appearsBy_34 k (nI s) (T.2 + z) (nI (i + 1)) (ho_sA S0 60 (upd T.1 (fr i) (T.1 (fr i) - z))) := by
        intro z
        unfold f_X12_appearsBy_108
        rw [ldI_n hf2 (by decide), sA_at, stI_n hf2 (by decide), le1_e, h127, sI_A, sA_A, sA_at]
      have hm : (if S0.1 45 (18 + 3 * i) ≤ T.1 (fr i) then ldI (ho_sA S0 60 T.1) 45 36 (nI (18 + 3 * i)) (fun v5 => f_X12_appearsBy_108 (f_X12_appearsBy_34 k) (nI s) T.2 (nI i) (nI (fr i)) v5 (ho_sA S0 60 T.1)) else ldI (ho_sA S0 60 T.1) 60 6 (nI (fr i)) (fun v6 => f_X12_appearsBy_108 (f_X12_appearsBy_34 k) (nI s) T.2 (nI i) (nI (fr i)) v6 (ho_sA S0 60 T.1))) = f_X12_appearsBy_108 (f_X12_appearsBy_34 k) (nI s) T.2 (nI i) (nI (fr i)) (mn (S0.1 45 (18 + 3 * i)) (T.1 (fr i))) (ho_sA S0 60 T.1) := by
        unfold mn
        by_cases h : S0.1 45 (18 + 3 * i) ≤ T.1 (fr i)
        · rw [if_pos h, if_pos h, ldI_n (by omega) (by decide), sA_ne _ _ (by decide)]
        · rw [if_neg h, if_neg h, ldI_n hf2 (by decide), sA_at]
      rw [hm, h108]
      exact hI
    · rw [if_neg hb, if_pos rfl, h127]
      rw [if_neg hb] at hI
      exact hI
theorem m_ab1 {nt np s : Nat} {fr : Nat → Nat} (hnt : nt ≤ 6) (hnp : np ≤ 6) (hs : s < 64) :
    ∀ (d i k : Nat) (S : Hp), i + d = np → d < k → S.1 41 4 = nI nt → S.1 41 3 = nI np → (∀ t, t < nt → S.1 45 (19 + 3 * t) = nI (fr t) ∧ fr t < 6) →
      f_X12_appearsBy_4 k (nI s) 0 (nI i) S = some ((tkN (fun t => S.1 45 (18 + 3 * t)) fr s (fun p => if i ≤ p ∧ p < np then S.1 55 (3 + p) else S.1 60 p) nt).2, ho_sA S 60 (tkN (fun t => S.1 45 (18 + 3 * t)) fr s (fun p => if i ≤ p ∧ p < np then S.1 55 (3 + p) else S.1 60 p) nt).1) := by
  intro d
  induction d with
  | zero =>
    intro i k S hi hk hn hp hfr
    obtain ⟨k, rfl⟩ : ∃ q, k = q + 1 := ⟨k - 1, by omega⟩
    have e : (fun p => if i ≤ p ∧ p < np then S.1 55 (3 + p) else S.1 60 p) = S.1 60 := by
      funext p
      rw [if_neg (by omega)]
    rw [f_X12_appearsBy_4, m_pm, ob2_s, hp, if_pos (nI_le (by omega) (by omega)), e]
    have h := m_ab2 (S0 := S) (row := S.1 60) hnt hs hn hfr nt 0 5000 (by omega) (by omega)
    rw [tkN, sA_self] at h
    exact h
  | succ d ih =>
    intro i k S hi hk hn hp hfr
    obtain ⟨k, rfl⟩ : ∃ q, k = q + 1 := ⟨k - 1, by omega⟩
    rw [f_X12_appearsBy_4, m_pm, ob2_s, hp, if_neg (nI_ge (by omega) (by omega)), lit_nI 3, nI_add, ldI_n (by omega) (by decide), stI_n (by omega) (by decide), le1_e, nI_1]
    rw [ih (i + 1) k (ho_sI S 60 i (S.1 55 (3 + i))) (by omega) (by omega) (by rw [sI_A, sA_ne _ _ (by decide)]; exact hn) (by rw [sI_A, sA_ne _ _ (by decide)]; exact hp) (by intro t ht; rw [sI_A, sA_ne _ _ (by decide)]; exact hfr t ht)]
    have e : (fun p => if i + 1 ≤ p ∧ p < np then (ho_sI S 60 i (S.1 55 (3 + i))).1 55 (3 + p) else (ho_sI S 60 i (S.1 55 (3 + i))).1 60 p) = (fun p => if i ≤ p ∧ p < np then S.1 55 (3 + p) else S.1 60 p) := by
      funext p
      rw [sI_A, sA_ne _ _ (by decide), sA_at]
      by_cases h1 : p = i
      · subst h1
        rw [if_neg (by omega), if_pos (by omega), pk_us]
      · rw [pk_un h1]
        by_cases h2 : i ≤ p ∧ p < np
        · rw [if_pos h2, if_pos (by omega)]
        · rw [if_neg h2, if_neg (by omega)]
    rw [e, sI_A, sA_ne _ _ (by decide), sA_A]
theorem m_ab {S : Hp} {nt np s : Nat} {fr : Nat → Nat} (hnt : nt ≤ 6) (hnp : np ≤ 6) (hs : s < 64) (hn : S.1 41 4 = nI nt) (hp : S.1 41 3 = nI np) (hfr : ∀ t, t < nt → S.1 45 (19 + 3 * t) = nI (fr t) ∧ fr t < 6) :
    f_X12_appearsBy (nI s) S = some ((tkN (fun t => S.1 45 (18 + 3 * t)) fr s (fun p => if p < np then S.1 55 (3 + p) else S.1 60 p) nt).2, ho_sA S 60 (tkN (fun t => S.1 45 (18 + 3 * t)) fr s (fun p => if p < np then S.1 55 (3 + p) else S.1 60 p) nt).1) := by
  have h := m_ab1 (fr := fr) hnt hnp hs np 0 5000 S (by omega) (by omega) hn hp hfr
  have e : (fun p => if 0 ≤ p ∧ p < np then S.1 55 (3 + p) else S.1 60 p) = (fun p => if p < np then S.1 55 (3 + p) else S.1 60 p) := by
    funext p
    by_cases h2 : p < np
    · rw [if_pos h2, if_pos ⟨Nat.zero_le _, h2⟩]
    · rw [if_neg h2, if_neg (fun q => h2 q.2)]
  rw [e] at h
  exact h
