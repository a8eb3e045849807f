/-! level 2: the reference's small functions in closed form -/
theorem m_isIn (v a b : Int64) (S : Hp) : f_X12_isIn v a b S = some (if a ≤ v ∧ v ≤ b then 1 else 0, S) := by
  unfold f_X12_isIn
  by_cases h1 : v < a
  · rw [if_pos ((lg_cmp_lt v a).mpr h1), if_neg (fun q => absurd q.1 (Int64.not_le.mpr h1))]
  · rw [if_neg (fun q => h1 ((lg_cmp_lt v a).mp q))]
    by_cases h2 : b < v
    · rw [if_pos ((lg_cmp_gt v b).mpr h2), if_neg (fun q => absurd q.2 (Int64.not_le.mpr h2))]
    · rw [if_neg (fun q => h2 ((lg_cmp_gt v b).mp q)), if_pos ⟨Int64.not_lt.mp h1, Int64.not_lt.mp h2⟩]
theorem i64_le (x y : Int32) : x.toInt64 ≤ y.toInt64 ↔ x ≤ y := by
  rw [Int64.le_iff_toInt_le, Int32.le_iff_toInt_le, Int32.toInt_toInt64, Int32.toInt_toInt64]
theorem i64_lit0 : (0 : Int64) = (0 : Int32).toInt64 := by decide
/-- isIn of ints, in ints -/
theorem m_isInI (x a b : Int32) (S : Hp) : f_X12_isIn x.toInt64 a.toInt64 b.toInt64 S = some (if a ≤ x ∧ x ≤ b then 1 else 0, S) := by
  rw [m_isIn]
  simp only [i64_le]
theorem tr_if {β : Type} {c : Prop} [Decidable c] {x : Option β} : tr (if c then (1 : Int32) else 0) x = x := by
  unfold tr
  by_cases h : c
  · rw [if_pos h, if_pos (Or.inr rfl)]
  · rw [if_neg h, if_pos (Or.inl rfl)]
/-- an index among n -/
theorem ix_iff {x : Int32} {n : Nat} (hn : n < 2 ^ 30) : ((0 : Int32) ≤ x ∧ x ≤ nI n - (1 : Int32)) ↔ ∃ i, i < n ∧ x = nI i := by
  have h1 : (nI n - nI 1).toInt = (n : Int) - 1 := pk_sub_toInt hn (by decide)
  constructor
  · rintro ⟨a, b⟩
    rw [Int32.le_iff_toInt_le] at a b
    rw [lit_nI 1, h1] at b
    have a0 : (0 : Int32).toInt = 0 := by decide
    rw [a0] at a
    obtain ⟨j, hj, rfl⟩ := nI_of (x := x) (fun q => by rw [Int32.lt_iff_toInt_lt, a0] at q; omega)
    rw [nI_toInt hj] at b
    exact ⟨j, by omega, rfl⟩
  · rintro ⟨i, hi, rfl⟩
    have hi2 : (nI i).toInt = (i : Int) := nI_toInt (by omega)
    refine ⟨nI_pos' (by omega), ?_⟩
    rw [Int32.le_iff_toInt_le, lit_nI 1, h1, hi2]
    omega
theorem m_tm {S : Hp} : f_X12_trickMany S = some (S.1 41 4, S) := by
  unfold f_X12_trickMany
  rw [lit_nI, ldI_n (by decide) (by decide)]
theorem m_wm {S : Hp} : f_X12_watcherMany S = some (S.1 41 5, S) := by
  unfold f_X12_watcherMany
  rw [lit_nI, ldI_n (by decide) (by decide)]
theorem m_isP {S : Hp} (x : Int32) : f_X12_isProvince x S = some (if (0 : Int32) ≤ x ∧ x ≤ S.1 41 3 - 1 then 1 else 0, S) := by
  unfold f_X12_isProvince
  rw [m_pm, ob2_s, i64_lit0, m_isInI, ob2_s, tr_if]
theorem m_isT {S : Hp} (x : Int32) : f_X12_isTrick x S = some (if (0 : Int32) ≤ x ∧ x ≤ S.1 41 4 - 1 then 1 else 0, S) := by
  unfold f_X12_isTrick
  rw [m_tm, ob2_s, i64_lit0, m_isInI, ob2_s, tr_if]
theorem m_isW {S : Hp} (x : Int32) : f_X12_isWatcher x S = some (if (0 : Int32) ≤ x ∧ x ≤ S.1 41 5 - 1 then 1 else 0, S) := by
  unfold f_X12_isWatcher
  rw [m_wm, ob2_s, i64_lit0, m_isInI, ob2_s, tr_if]
theorem m_times {S : Hp} {i : Nat} (h : i < 6) : f_X12_timesOf (nI i) S = some (S.1 55 (9 + i), S) := by
  unfold f_X12_timesOf
  rw [lit_nI 9, nI_add, ldI_n (by omega) (by decide)]
theorem m_known {S : Hp} {i : Nat} (h : i < 6) : f_X12_knownOf (nI i) S = some (S.1 55 (15 + i), S) := by
  unfold f_X12_knownOf
  rw [lit_nI 15, nI_add, ldI_n (by omega) (by decide)]
theorem m_seat {S : Hp} {i : Nat} (h : i < 5) : f_X12_seatOf (nI i) S = some (S.1 55 (21 + i), S) := by
  unfold f_X12_seatOf
  rw [lit_nI 21, nI_add, ldI_n (by omega) (by decide)]
/-- a set of numbers below n, as bits -/
def setN (P : Nat → Bool) : Nat → Int32
  | 0 => 0
  | n + 1 => if P n then setN P n ||| ((1 : Int32) <<< (nI n &&& 31)) else setN P n
theorem m_thr_loop {S : Hp} {nt : Nat} (hnt : nt ≤ 6) (hn : S.1 41 4 = nI nt) : ∀ (d i k : Nat), i + d = nt → d < k → f_X12_throughSet_4 k (setN (fun t => !decide (S.1 55 (15 + t) < (100 : Int32))) i) (nI i) S = some (setN (fun t => !decide (S.1 55 (15 + t) < (100 : Int32))) nt, S) := by
  intro d
  induction d with
  | zero =>
    intro i k hi hk
    obtain ⟨k, rfl⟩ : ∃ q, k = q + 1 := ⟨k - 1, by omega⟩
    rw [f_X12_throughSet_4, m_tm, ob2_s, hn, if_pos (nI_le (by omega) (by omega)), show i = nt by omega]
  | succ d ih =>
    intro i k hi hk
    obtain ⟨k, rfl⟩ : ∃ q, k = q + 1 := ⟨k - 1, by omega⟩
    rw [f_X12_throughSet_4, m_tm, ob2_s, hn, if_neg (nI_ge (by omega) (by omega)), m_known (by omega), ob2_s]
    have h28 : ∀ x, f_X12_throughSet_28 (f_X12_throughSet_4 k) x (nI i) S = f_X12_throughSet_4 k x (nI (i + 1)) S := by
      intro x
      unfold f_X12_throughSet_28
      rw [le1_e, nI_1]
    have hI := ih (i + 1) k (by omega) (by omega)
    rw [setN] at hI
    by_cases h : S.1 55 (15 + i) < (100 : Int32)
    · rw [if_pos h, h28]
      rw [if_neg (by simp [h])] at hI
      exact hI
    · rw [if_neg h, le1_e, h28]
      rw [if_pos (by simp [h])] at hI
      exact hI
theorem m_thr {S : Hp} {nt : Nat} (hnt : nt ≤ 6) (hn : S.1 41 4 = nI nt) : f_X12_throughSet S = some (setN (fun t => !decide (S.1 55 (15 + t) < (100 : Int32))) nt, S) :=
  m_thr_loop hnt hn nt 0 5000 (by omega) (by omega)
theorem m_sa_loop {S : Hp} {np : Nat} (hnp : np ≤ 6) (hn : S.1 41 3 = nI np) : ∀ (d i k : Nat), i + d = np → d < k → f_X12_storesAll_4 k (l_sum (fun j => S.1 55 (3 + j)) i) (nI i) S = some (l_sum (fun j => S.1 55 (3 + j)) np, S) := by
  intro d
  induction d with
  | zero =>
    intro i k hi hk
    obtain ⟨k, rfl⟩ : ∃ q, k = q + 1 := ⟨k - 1, by omega⟩
    rw [f_X12_storesAll_4, m_pm, ob2_s, hn, if_pos (nI_le (by omega) (by omega)), show i = np by omega]
  | succ d ih =>
    intro i k hi hk
    obtain ⟨k, rfl⟩ : ∃ q, k = q + 1 := ⟨k - 1, by omega⟩
    rw [f_X12_storesAll_4, m_pm, ob2_s, hn, if_neg (nI_ge (by omega) (by omega)), lit_nI 3, nI_add, ldI_n (by omega) (by decide), le1_e, le1_e, nI_1]
    exact ih (i + 1) k (by omega) (by omega)
theorem m_sa {S : Hp} {np : Nat} (hnp : np ≤ 6) (hn : S.1 41 3 = nI np) : f_X12_storesAll S = some (l_sum (fun j => S.1 55 (3 + j)) np, S) :=
  m_sa_loop hnp hn np 0 5000 (by omega) (by omega)
theorem m_ref {S : Hp} {k : Nat} (h : k < 6) : f_X12_refuses (nI k) S = some (-1, ho_sI S 10 k (S.1 10 k + 1)) := by
  unfold f_X12_refuses
  rw [ldI_n h (by decide), stI_n h (by decide)]
