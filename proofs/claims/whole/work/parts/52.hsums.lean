/-! level 2: the class's sums of sights, sets, copies -/
theorem h_sT_loop {c a t : Nat} {C : Cr} {z : Nat → Nat} (hC : okCr C) (hz : okZ C z) (ht : t < cT C) : ∀ (d i k : Nat) (S : Hp), i + d = cW C → d < k → cH S c C → stH S a C z →
    ∃ S', f_X8_sightOfTrick_5 a k (nI t) (nI (smT (fun w => sg C z t w (z (21 + w))) i)) (nI i) S = some (nI (sgT C z t), S') ∧ fH (scE c) S S' := by
  have hnw := hC.1.2.2
  intro d
  induction d with
  | zero =>
    intro i k S hi hk h hs
    obtain ⟨k, rfl⟩ : ∃ q, k = q + 1 := ⟨k - 1, by omega⟩
    refine ⟨S, ?_, fH_rf _ S⟩
    rw [f_X8_sightOfTrick_5, ldP_n h.1.1 h.1.2, ldI_L 2 (by decide) (by decide), h.2.1.2.2, if_pos (nI_le (by omega) (by omega)), show i = cW C by omega]
    rfl
  | succ d ih =>
    intro i k S hi hk h hs
    obtain ⟨k, rfl⟩ : ∃ q, k = q + 1 := ⟨k - 1, by omega⟩
    have hz6 := hz.2.2.2.2.2.2.1 i (by omega)
    obtain ⟨S1, r1, r2⟩ := h_gl (w := i) hC hz h hs ht (by omega) hz6
    obtain ⟨S2, r3, r4⟩ := ih (i + 1) k S1 (by omega) (by omega) (cH_e h r2) (stH_e h hs r2)
    refine ⟨S2, ?_, fH_tr r2 r4⟩
    rw [f_X8_sightOfTrick_5, ldP_n h.1.1 h.1.2, ldI_L 2 (by decide) (by decide), h.2.1.2.2, if_neg (nI_ge (by omega) (by omega)), ldI_n (by omega) (by decide), hs.2.2.2 i (by omega), r1, ob2_s, le1_e, le1_e, nI_add, nI_1]
    exact r3
theorem h_sT {S : Hp} {c a t : Nat} {C : Cr} {z : Nat → Nat} (hC : okCr C) (hz : okZ C z) (ht : t < cT C) (h : cH S c C) (hs : stH S a C z) : ∃ S', f_X8_sightOfTrick a (nI t) S = some (nI (sgT C z t), S') ∧ fH (scE c) S S' :=
  h_sT_loop hC hz ht (cW C) 0 5000 S (by omega) (by have := hC.1.2.2; omega) h hs
theorem h_sW_loop {c a w seat : Nat} {C : Cr} {z : Nat → Nat} (hC : okCr C) (hz : okZ C z) (hw : w < cW C) (hse : seat ≤ 9) : ∀ (d i k : Nat) (S : Hp), i + d = cT C → d < k → cH S c C → stH S a C z →
    ∃ S', f_X8_sightFrom_6 a k (nI w) (nI seat) (nI (smT (fun t => sg C z t w seat) i)) (nI i) S = some (nI (sgW C z w seat), S') ∧ fH (scE c) S S' := by
  have hnt := hC.1.2.1
  intro d
  induction d with
  | zero =>
    intro i k S hi hk h hs
    obtain ⟨k, rfl⟩ : ∃ q, k = q + 1 := ⟨k - 1, by omega⟩
    refine ⟨S, ?_, fH_rf _ S⟩
    rw [f_X8_sightFrom_6, ldP_n h.1.1 h.1.2, ldI_L 1 (by decide) (by decide), h.2.1.2.1, if_pos (nI_le (by omega) (by omega)), show i = cT C by omega]
    rfl
  | succ d ih =>
    intro i k S hi hk h hs
    obtain ⟨k, rfl⟩ : ∃ q, k = q + 1 := ⟨k - 1, by omega⟩
    obtain ⟨S1, r1, r2⟩ := h_gl (t := i) hC hz h hs (by omega) hw hse
    obtain ⟨S2, r3, r4⟩ := ih (i + 1) k S1 (by omega) (by omega) (cH_e h r2) (stH_e h hs r2)
    refine ⟨S2, ?_, fH_tr r2 r4⟩
    rw [f_X8_sightFrom_6, ldP_n h.1.1 h.1.2, ldI_L 1 (by decide) (by decide), h.2.1.2.1, if_neg (nI_ge (by omega) (by omega)), r1, ob2_s, le1_e, le1_e, nI_add, nI_1]
    exact r3
theorem h_sW {S : Hp} {c a w seat : Nat} {C : Cr} {z : Nat → Nat} (hC : okCr C) (hz : okZ C z) (hw : w < cW C) (hse : seat ≤ 9) (h : cH S c C) (hs : stH S a C z) : ∃ S', f_X8_sightFrom a (nI w) (nI seat) S = some (nI (sgW C z w seat), S') ∧ fH (scE c) S S' :=
  h_sW_loop hC hz hw hse (cT C) 0 5000 S (by omega) (by have := hC.1.2.1; omega) h hs
theorem setNat_c {P Q : Nat → Bool} : ∀ n, (∀ i, i < n → P i = Q i) → setNat P n = setNat Q n
  | 0, _ => rfl
  | n + 1, h => by rw [setNat, setNat, setNat_c n (fun i hi => h i (by omega)), h n (by omega)]
theorem setNat_x {P : Nat → Bool} {m : Nat} : ∀ n, m ≤ n → (∀ i, m ≤ i → i < n → P i = false) → setNat P n = setNat P m
  | 0, hm, _ => by rw [show m = 0 by omega]
  | n + 1, hm, h => by
    by_cases e : m = n + 1
    · rw [e]
    · rw [setNat, h n (by omega) (by omega), setNat_x n (by omega) (fun i h1 h2 => h i h1 (by omega))]
      rfl
theorem setNat_bit (P : Nat → Bool) : ∀ (n t : Nat), (setNat P n).testBit t = (decide (t < n) && P t)
  | 0, t => by simp [setNat]
  | n + 1, t => by
    have ih := setNat_bit P n
    have hl := setNat_lt P n
    rw [setNat]
    rcases Nat.lt_trichotomy t n with h | h | h
    · have e : decide (t < n + 1) = decide (t < n) := by rw [decide_eq_true h, decide_eq_true (show t < n + 1 by omega)]
      rw [e, ← ih t]
      by_cases hp : P n = true
      · rw [if_pos hp, Nat.add_comm, Nat.testBit_two_pow_add_gt h]
      · rw [if_neg hp, Nat.add_zero]
    · subst h
      have e : (setNat P t).testBit t = false := by rw [ih t]; simp
      have e2 : decide (t < t + 1) = true := by simp
      rw [e2, Bool.true_and]
      by_cases hp : P t = true
      · rw [if_pos hp, Nat.add_comm, Nat.testBit_two_pow_add_eq, e, hp]
        rfl
      · rw [if_neg hp, Nat.add_zero, e]
        simp at hp
        rw [hp]
    · have e : decide (t < n + 1) = false := by simp; omega
      rw [e, Bool.false_and]
      refine Nat.testBit_lt_two_pow (Nat.lt_of_lt_of_le (m := 2 ^ (n + 1)) ?_ (Nat.pow_le_pow_right (by decide) (by omega)))
      rw [Nat.pow_succ]
      by_cases hp : P n = true
      · rw [if_pos hp]; omega
      · rw [if_neg hp]; omega
theorem setNat_64 (P : Nat → Bool) {n : Nat} (h : n ≤ 6) : setNat P n < 64 := Nat.lt_of_lt_of_le (setNat_lt P n) (Nat.pow_le_pow_right (n := 2) (by decide) h)
theorem setNat_s {P : Nat → Bool} {i : Nat} (hi : i < 6) (h : P i = true) : nI (setNat P i) ||| ((1 : Int32) <<< (nI i &&& 31)) = nI (setNat P (i + 1)) := by
  rw [or_bit i hi _ (setNat_lt P i), setNat, if_pos h]
theorem setNat_n {P : Nat → Bool} {i : Nat} (h : P i = false) : setNat P (i + 1) = setNat P i := by
  rw [setNat, h]
  rfl
/-- the tricks seen through, as bits -/
def thr (z : Nat → Nat) (n : Nat) : Nat := setNat (fun t => decide (100 ≤ z (15 + t))) n
theorem thr_6 {C : Cr} {z : Nat → Nat} (hC : okCr C) (hz : okZ C z) : thr z 6 = thr z (cT C) := by
  refine setNat_x 6 hC.1.2.1 (fun i h1 h2 => ?_)
  rw [(hz.2.2.2.2.2.2.2.2 i h1 h2).2]
  rfl
theorem eq0 {n : Nat} (h : n < 2 ^ 31) : nI n = (0 : Int32) ↔ n = 0 := nI_eq h (by decide)
theorem lt100 {n : Nat} (h : n < 2 ^ 31) : nI n < (100 : Int32) ↔ n < 100 := nI_ltI h (by decide)
theorem h_thr_loop {S : Hp} {a : Nat} {z : Nat → Nat} (hs : ∀ p, p < 6 → S.1 (a + 3) p = nI (z (15 + p)) ∧ z (15 + p) ≤ 999) : ∀ (d i k : Nat), i + d = 6 → d < k → f_X9_seenThrough_4 a k (nI (thr z i)) (nI i) S = some (nI (thr z 6), S) := by
  intro d
  induction d with
  | zero =>
    intro i k hi hk
    obtain ⟨k, rfl⟩ : ∃ q, k = q + 1 := ⟨k - 1, by omega⟩
    rw [f_X9_seenThrough_4, lit_nI 6, if_pos (nI_le (by omega) (by omega)), show i = 6 by omega]
  | succ d ih =>
    intro i k hi hk
    obtain ⟨k, rfl⟩ : ∃ q, k = q + 1 := ⟨k - 1, by omega⟩
    have h27 : ∀ x, f_X9_seenThrough_27 (f_X9_seenThrough_4 a k) a x (nI i) S = f_X9_seenThrough_4 a k x (nI (i + 1)) S := by
      intro x
      unfold f_X9_seenThrough_27
      rw [le1_e, nI_1]
    have hI := ih (i + 1) k (by omega) (by omega)
    obtain ⟨h1, h2⟩ := hs i (by omega)
    rw [f_X9_seenThrough_4, lit_nI 6, if_neg (nI_ge (by omega) (by omega)), ldI_n (by omega) (by decide), h1]
    by_cases h : z (15 + i) < 100
    · rw [if_pos ((lt100 (by omega)).mpr h), h27, ← hI]
      unfold thr
      rw [setNat_n (by simp; omega)]
    · rw [if_neg (fun q => h ((lt100 (by omega)).mp q)), le1_e, h27, ← hI]
      unfold thr
      rw [setNat_s (by omega) (by simp; omega)]
theorem h_thr {S : Hp} {a : Nat} {C : Cr} {z : Nat → Nat} (hC : okCr C) (hz : okZ C z) (hs : stH S a C z) : f_X9_seenThrough a S = some (nI (thr z (cT C)), S) := by
  rw [← thr_6 hC hz]
  exact h_thr_loop (z := z) (fun p hp => ⟨(hs.2.2.1 p hp).2.2, hz.2.2.2.2.2.1 p hp⟩) 6 0 5000 (by omega) (by omega)
def allS (z : Nat → Nat) (n : Nat) : Nat := smT (fun p => z (3 + p)) n
theorem allS_6 {C : Cr} {z : Nat → Nat} (hC : okCr C) (hz : okZ C z) : allS z 6 = allS z (cP C) := by
  have h6 := hC.1.1
  have k : ∀ n, cP C ≤ n → n ≤ 6 → allS z n = allS z (cP C) := by
    intro n
    induction n with
    | zero => intro h1 _; rw [show cP C = 0 by omega]
    | succ n ih =>
      intro h1 h2
      by_cases e : cP C = n + 1
      · rw [e]
      · have := hz.2.2.2.2.2.2.2.1 n (by omega) (by omega)
        rw [← ih (by omega) (by omega)]
        unfold allS
        rw [smT, this]
        rfl
  exact k 6 h6 (Nat.le_refl _)
theorem h_all_loop {S : Hp} {a : Nat} {z : Nat → Nat} (hs : ∀ p, p < 6 → S.1 (a + 1) p = nI (z (3 + p))) : ∀ (d i k : Nat), i + d = 6 → d < k → f_X9_allStores_4 a k (nI (allS z i)) (nI i) S = some (nI (allS z 6), S) := by
  intro d
  induction d with
  | zero =>
    intro i k hi hk
    obtain ⟨k, rfl⟩ : ∃ q, k = q + 1 := ⟨k - 1, by omega⟩
    rw [f_X9_allStores_4, lit_nI 6, if_pos (nI_le (by omega) (by omega)), show i = 6 by omega]
  | succ d ih =>
    intro i k hi hk
    obtain ⟨k, rfl⟩ : ∃ q, k = q + 1 := ⟨k - 1, by omega⟩
    rw [f_X9_allStores_4, lit_nI 6, if_neg (nI_ge (by omega) (by omega)), ldI_n (by omega) (by decide), hs i (by omega), le1_e, le1_e, nI_add, nI_1]
    exact ih (i + 1) k (by omega) (by omega)
theorem h_all {S : Hp} {a : Nat} {C : Cr} {z : Nat → Nat} (hC : okCr C) (hz : okZ C z) (hs : stH S a C z) : f_X9_allStores a S = some (nI (allS z (cP C)), S) := by
  rw [← allS_6 hC hz]
  exact h_all_loop (fun p hp => (hs.2.2.1 p hp).1) 6 0 5000 (by omega) (by omega)
/-- the tricks that a show can be of -/
def shw (C : Cr) (z : Nat → Nat) : Nat := if z 2 = 0 then 0 else setNat (fun t => decide (z (15 + t) < 100)) (cT C)
theorem shw_lt (C : Cr) (z : Nat → Nat) : shw C z < 2 ^ cT C := by
  unfold shw
  split
  · exact Nat.two_pow_pos _
  · exact setNat_lt _ _
theorem shw_64 {C : Cr} (hC : okCr C) (z : Nat → Nat) : shw C z < 64 := Nat.lt_of_lt_of_le (shw_lt C z) (Nat.pow_le_pow_right (n := 2) (by decide) hC.1.2.1)
theorem and_cpl : ∀ n, n < 7 → ∀ s, s < 64 → nI (2 ^ n - 1) &&& (nI s ^^^ (-1 : Int32)) = nI (setNat (fun t => !s.testBit t) n) := by decide +kernel
theorem sub_iff : ∀ s, s < 64 → ∀ m, m < 64 → ((nI s &&& (nI m ^^^ (-1 : Int32)) = 0) ↔ s &&& m = s) := by decide +kernel
theorem h_shw {S : Hp} {c a : Nat} {C : Cr} {z : Nat → Nat} (hC : okCr C) (hz : okZ C z) (h : cH S c C) (hs : stH S a C z) : f_X8_showable a S = some (nI (shw C z), S) := by
  have hz2 := hz.2.2.1
  unfold f_X8_showable shw
  rw [hs.2.1.2.2]
  by_cases e : z 2 = 0
  · rw [if_pos e, e, if_pos (show nI 0 = (0 : Int32) from rfl)]
    rfl
  · rw [if_neg e, if_neg (fun q => e ((eq0 (by omega)).mp q)), ldP_n h.1.1 h.1.2, ldI_L 1 (by decide) (by decide), h.2.1.2.1, h_thr hC hz hs, ob2_s, shl_nt _ hC.1.2.1, and_cpl (cT C) (by have := hC.1.2.1; omega) (thr z (cT C)) (setNat_64 _ hC.1.2.1)]
    congr 3
    refine setNat_c _ (fun i hi => ?_)
    unfold thr
    rw [setNat_bit, decide_eq_true hi, Bool.true_and, ← decide_not]
    simp
theorem cpI_0 {β : Type} {S : Hp} {a0 n0 a1 n1 n : Nat} {f : Hp → Option β} (h0 : n ≤ n0) (h1 : n ≤ n1) (hn : n < 2 ^ 31) : cpI S a0 n0 (0 : Int32) a1 n1 (0 : Int32) (nI n) f = f (ho_sA S a1 (fun p => if p < n then S.1 a0 p else S.1 a1 p)) := by
  have z0 : (0 : Int32).toNatClampNeg = 0 := by decide
  have e : va_cpy (S.1 a0) (S.1 a1) 0 0 n = (fun p => if p < n then S.1 a0 p else S.1 a1 p) := by
    funext p
    unfold va_cpy
    by_cases h : p < n
    · rw [if_pos h, if_pos (by omega), show 0 + (p - 0) = p by omega]
    · rw [if_neg h, if_neg (by omega)]
  unfold cpI
  rw [z0, nI_clamp hn, e, if_neg]
  intro q
  have q0 : ¬ (0 : Int32) < 0 := by decide
  rcases q with q | q | q | q | q
  · exact q0 q
  · exact q0 q
  · exact nI_pos hn q
  · omega
  · omega
