/-! level 2: the reference's reckoning of codes -/
def opv (c : Nat) (a b : Int) : Int :=
  if c = 1 then clip (a + b) else if c = 2 then clip (a - b) else if c = 3 then clip (a * b) else if c = 4 then fdv a b
  else if c = 5 then (if b ≤ a then b else a) else if c = 6 then (if a ≤ b then b else a)
  else if c = 7 then (if b ≤ a then 0 else 1) else if c = 8 then (if a ≤ b then 0 else 1) else if c = 9 then (if a = b then 1 else 0)
  else if c = 10 then a * b else (if a + b ≤ 0 then 0 else 1)
/-- a number of the reckoning -/
def inM (a : Int) : Prop := -1000000 ≤ a ∧ a ≤ 1000000
theorem mul_in {a b : Int} (ha : inM a) (hb : inM b) : -1000000000000 ≤ a * b ∧ a * b ≤ 1000000000000 := by
  obtain ⟨a1, a2⟩ := ha
  obtain ⟨b1, b2⟩ := hb
  have h : (a * b).natAbs ≤ 1000000 * 1000000 := by
    rw [Int.natAbs_mul]
    exact Nat.mul_le_mul (by omega) (by omega)
  omega
theorem m_joins {S : Hp} {st : List Int} {a b : Int} {c : Nat} (h : pileR S (st ++ [a, b])) (hl : st.length + 2 < 1700) (ha : inM a) (hb : inM b) (hc : c < 1000) : ∃ S', f_X12_qJoins (nI c) S = some S' ∧ pileR S' (st ++ [opv c a b]) ∧ evF S S' := by
  obtain ⟨h1, h2⟩ := h
  have hlen : (st ++ [a, b]).length = st.length + 2 := by simp
  rw [hlen] at h1
  have ea : S.2.1 106 st.length = LL a := by
    rw [h2 st.length (by simp)]
    simp
  have eb : S.2.1 106 (st.length + 1) = LL b := by
    rw [h2 (st.length + 1) (by simp)]
    simp
  have e1 : nI (st.length + 2) - (1 : Int32) = nI (st.length + 1) := pk_sub (a := st.length + 2) (b := 1) (by omega)
  have e2 : nI (st.length + 2) - (2 : Int32) = nI st.length := pk_sub (a := st.length + 2) (b := 2) (by omega)
  have hp : pileR (ho_sI S 0 106 (nI st.length)) st := by
    refine ⟨by rw [sI_A, sA_at, pk_us], fun i hi => ?_⟩
    show S.2.1 106 i = _
    rw [h2 i (by simp; omega), List.getElem_append_left hi]
  have hF : evF S (ho_sI S 0 106 (nI st.length)) := evF_h S _
  have put : ∀ v : Int, ∃ S', f_X12_qPuts (LL v) (ho_sI S 0 106 (nI st.length)) = some S' ∧ pileR S' (st ++ [v]) ∧ evF S S' := by
    intro v
    obtain ⟨S', q1, q2, q3⟩ := m_puts hp (by omega) v
    exact ⟨S', q1, q2, evF_tr hF q3⟩
  have k0 : (0 : Int64) = LL 0 := by decide
  have k1 : (1 : Int64) = LL 1 := by decide
  obtain ⟨a1, a2⟩ := ha
  obtain ⟨b1, b2⟩ := hb
  have hm := mul_in ⟨a1, a2⟩ ⟨b1, b2⟩
  have hq : ∀ k : Nat, k < 1000 → (nI c = nI k ↔ c = k) := fun k hk => nI_eq (by omega) (by omega)
  unfold f_X12_qJoins opv
  rw [h1, e1, e2, ldJ_n (by omega) (by decide), ldJ_n (by omega) (by decide), le1_e, ea, eb]
  rw [lit_nI 1, lit_nI 2, lit_nI 3, lit_nI 4, lit_nI 5, lit_nI 6, lit_nI 7, lit_nI 8, lit_nI 9, lit_nI 10]
  by_cases q1 : c = 1
  · rw [if_pos ((hq 1 (by decide)).mpr q1), if_pos q1, show LL a + LL b = LL (a + b) from (Int64.ofInt_add a b).symm, m_clip (by omega) (by omega), ob2_s]
    obtain ⟨S', p1, p2⟩ := put (clip (a + b))
    exact ⟨S', by rw [p1, ob_s], p2⟩
  rw [if_neg (fun q => q1 ((hq 1 (by decide)).mp q)), if_neg q1]
  by_cases q2 : c = 2
  · rw [if_pos ((hq 2 (by decide)).mpr q2), if_pos q2, show LL a - LL b = LL (a - b) from (Int64.ofInt_sub a b).symm, m_clip (by omega) (by omega), ob2_s]
    obtain ⟨S', p1, p2⟩ := put (clip (a - b))
    exact ⟨S', by rw [p1, ob_s], p2⟩
  rw [if_neg (fun q => q2 ((hq 2 (by decide)).mp q)), if_neg q2]
  by_cases q3 : c = 3
  · rw [if_pos ((hq 3 (by decide)).mpr q3), if_pos q3, show LL a * LL b = LL (a * b) from (Int64.ofInt_mul a b).symm, m_clip (by omega) (by omega), ob2_s]
    obtain ⟨S', p1, p2⟩ := put (clip (a * b))
    exact ⟨S', by rw [p1, ob_s], p2⟩
  rw [if_neg (fun q => q3 ((hq 3 (by decide)).mp q)), if_neg q3]
  by_cases q4 : c = 4
  · rw [if_pos ((hq 4 (by decide)).mpr q4), if_pos q4, m_floor a1 a2 b1 b2, ob2_s]
    obtain ⟨S', p1, p2⟩ := put (fdv a b)
    exact ⟨S', by rw [p1, ob_s], p2⟩
  rw [if_neg (fun q => q4 ((hq 4 (by decide)).mp q)), if_neg q4]
  have ab_ge : (0 ≤ lg_cmp (LL a) (LL b)) ↔ b ≤ a := c_ge (by omega) (by omega) (by omega) (by omega)
  have ab_le : (lg_cmp (LL a) (LL b) ≤ 0) ↔ a ≤ b := c_le (by omega) (by omega) (by omega) (by omega)
  have ab_eq : (lg_cmp (LL a) (LL b) = 0) ↔ a = b := c_eq (by omega) (by omega) (by omega) (by omega)
  by_cases q5 : c = 5
  · rw [if_pos ((hq 5 (by decide)).mpr q5), if_pos q5]
    unfold f_X12_qJoins_161
    obtain ⟨S', p1, p2⟩ := put (if b ≤ a then b else a)
    refine ⟨S', ?_, p2⟩
    by_cases g : b ≤ a
    · rw [if_pos (ab_ge.mpr g)]; rw [if_pos g] at p1; rw [p1, ob_s]
    · rw [if_neg (fun q => g (ab_ge.mp q))]; rw [if_neg g] at p1; rw [p1, ob_s]
  rw [if_neg (fun q => q5 ((hq 5 (by decide)).mp q)), if_neg q5]
  by_cases q6 : c = 6
  · rw [if_pos ((hq 6 (by decide)).mpr q6), if_pos q6]
    unfold f_X12_qJoins_181
    obtain ⟨S', p1, p2⟩ := put (if a ≤ b then b else a)
    refine ⟨S', ?_, p2⟩
    by_cases g : a ≤ b
    · rw [if_pos (ab_le.mpr g)]; rw [if_pos g] at p1; rw [p1, ob_s]
    · rw [if_neg (fun q => g (ab_le.mp q))]; rw [if_neg g] at p1; rw [p1, ob_s]
  rw [if_neg (fun q => q6 ((hq 6 (by decide)).mp q)), if_neg q6]
  by_cases q7 : c = 7
  · rw [if_pos ((hq 7 (by decide)).mpr q7), if_pos q7]
    unfold f_X12_qJoins_200
    obtain ⟨S', p1, p2⟩ := put (if b ≤ a then 0 else 1)
    refine ⟨S', ?_, p2⟩
    by_cases g : b ≤ a
    · rw [if_pos (ab_ge.mpr g), k0]; rw [if_pos g] at p1; rw [p1, ob_s]
    · rw [if_neg (fun q => g (ab_ge.mp q)), k1]; rw [if_neg g] at p1; rw [p1, ob_s]
  rw [if_neg (fun q => q7 ((hq 7 (by decide)).mp q)), if_neg q7]
  by_cases q8 : c = 8
  · rw [if_pos ((hq 8 (by decide)).mpr q8), if_pos q8]
    unfold f_X12_qJoins_219
    obtain ⟨S', p1, p2⟩ := put (if a ≤ b then 0 else 1)
    refine ⟨S', ?_, p2⟩
    by_cases g : a ≤ b
    · rw [if_pos (ab_le.mpr g), k0]; rw [if_pos g] at p1; rw [p1, ob_s]
    · rw [if_neg (fun q => g (ab_le.mp q)), k1]; rw [if_neg g] at p1; rw [p1, ob_s]
  rw [if_neg (fun q => q8 ((hq 8 (by decide)).mp q)), if_neg q8]
  by_cases q9 : c = 9
  · rw [if_pos ((hq 9 (by decide)).mpr q9), if_pos q9]
    unfold f_X12_qJoins_238
    obtain ⟨S', p1, p2⟩ := put (if a = b then 1 else 0)
    refine ⟨S', ?_, p2⟩
    by_cases g : a = b
    · rw [if_pos (ab_eq.mpr g), k1]; rw [if_pos g] at p1; rw [p1, ob_s]
    · rw [if_neg (fun q => g (ab_eq.mp q)), k0]; rw [if_neg g] at p1; rw [p1, ob_s]
  rw [if_neg (fun q => q9 ((hq 9 (by decide)).mp q)), if_neg q9]
  by_cases q10 : c = 10
  · rw [if_pos ((hq 10 (by decide)).mpr q10), if_pos q10, show LL a * LL b = LL (a * b) from (Int64.ofInt_mul a b).symm]
    obtain ⟨S', p1, p2⟩ := put (a * b)
    exact ⟨S', by rw [p1, ob_s], p2⟩
  rw [if_neg (fun q => q10 ((hq 10 (by decide)).mp q)), if_neg q10, show LL a + LL b = LL (a + b) from (Int64.ofInt_add a b).symm]
  unfold f_X12_qJoins_270
  obtain ⟨S', p1, p2⟩ := put (if a + b ≤ 0 then 0 else 1)
  refine ⟨S', ?_, p2⟩
  have s_le : (lg_cmp (LL (a + b)) (LL 0) ≤ 0) ↔ a + b ≤ 0 := c_le (by omega) (by omega) (by decide) (by decide)
  rw [k0]
  by_cases g : a + b ≤ 0
  · rw [if_pos (s_le.mpr g)]; rw [if_pos g] at p1; rw [p1, ob_s]
  · rw [if_neg (fun q => g (s_le.mp q)), k1]; rw [if_neg g] at p1; rw [p1, ob_s]
